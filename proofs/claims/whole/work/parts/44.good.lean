/-! BALLOONS: sp the speakers' columns, c the cells (4 times row and column) -/
def bI (b : Bool) : Int32 := if b = true then 1 else 0
def allB (F : Nat → Bool) (a : Nat) : Nat → Bool
  | 0 => true
  | m + 1 => F a && allB F (a + 1) m
theorem allB_iff (F : Nat → Bool) : ∀ (m a : Nat), allB F a m = true ↔ ∀ j, a ≤ j → j < a + m → F j = true
  | 0, a => by simp [allB]; omega
  | m + 1, a => by
    have ih := allB_iff F m (a + 1)
    show (F a && allB F (a + 1) m) = true ↔ _
    rw [Bool.and_eq_true, ih]
    constructor
    · rintro ⟨h1, h2⟩ j h3 h4
      by_cases e : j = a
      · subst e; exact h1
      · exact h2 j (by omega) (by omega)
    · intro h
      exact ⟨h a (by omega) (by omega), fun j h1 h2 => h j (by omega) (by omega)⟩
theorem bI_0 (b : Bool) : (bI b = 0) = (b = false) := by cases b <;> simp [bI]
theorem vz_bI (b : Bool) : vz (bI b) = true := by cases b <;> rfl
def okA (sp c : Nat → Nat) (j a : Nat) : Bool := if c a / 4 = c j / 4 then decide (sp a ≤ sp j) else decide (c j % 4 ≠ sp a)
def beh (c : Nat → Nat) (j : Nat) : Bool := decide (j = 0 ∨ c (j - 1) < c j)
def nea (sp c : Nat → Nat) (j : Nat) : Bool := decide (c j % 4 ≤ sp j + 1 ∧ sp j ≤ c j % 4 + 1)
def fitB (sp c : Nat → Nat) (j : Nat) : Bool := beh c j && (nea sp c j && allB (okA sp c j) 0 j)
def tog (sp c : Nat → Nat) (i j : Nat) : Bool := decide (¬ (c i / 4 = c j / 4 ∧ sp j < sp i) ∧ ¬ (c j / 4 < c i / 4 ∧ c i % 4 = sp j) ∧ ¬ (c i / 4 < c j / 4 ∧ c j % 4 = sp i))
def gdB (sp c : Nat → Nat) (b : Nat) : Bool := allB (fitB sp c) 0 b
def gdM (sp c : Nat → Nat) (b : Nat) : Bool := allB (fun i => nea sp c i && (beh c i && allB (tog sp c i) (i + 1) (b - (i + 1)))) 0 b
theorem beh_mono {c : Nat → Nat} {b : Nat} (h : ∀ j, j < b → beh c j = true) : ∀ {j i : Nat}, i < j → j < b → c i < c j
  | 0, i, h1, h2 => by omega
  | j + 1, i, h1, h2 => by
    have hb := h (j + 1) h2
    simp [beh] at hb
    by_cases e : i = j
    · subst e; exact hb
    · have := beh_mono h (j := j) (i := i) (by omega) (by omega)
      omega
theorem gd_eq (sp c : Nat → Nat) (b : Nat) : gdM sp c b = gdB sp c b := by
  rw [Bool.eq_iff_iff]
  unfold gdM gdB
  rw [allB_iff, allB_iff]
  constructor
  · intro h j _ hj
    have hb : ∀ k, k < b → beh c k = true := fun k hk => by
      have := h k (by omega) (by omega)
      simp only [Bool.and_eq_true] at this
      exact this.2.1
    have hjj := h j (by omega) hj
    simp only [Bool.and_eq_true] at hjj
    unfold fitB
    rw [Bool.and_eq_true, Bool.and_eq_true, allB_iff]
    refine ⟨hjj.2.1, hjj.1, fun a _ ha => ?_⟩
    have haj := h a (by omega) (by omega)
    simp only [Bool.and_eq_true, allB_iff] at haj
    have ht := haj.2.2 j (by omega) (by omega)
    have hm := beh_mono hb (show a < j by omega) (by omega)
    simp [tog] at ht
    unfold okA
    by_cases q : c a / 4 = c j / 4
    · rw [if_pos q]; simp; omega
    · rw [if_neg q]; simp; omega
  · intro h i _ hi
    have hb : ∀ k, k < b → beh c k = true := fun k hk => by
      have := h k (by omega) (by omega)
      unfold fitB at this
      simp only [Bool.and_eq_true] at this
      exact this.1
    have hii := h i (by omega) hi
    unfold fitB at hii
    simp only [Bool.and_eq_true] at hii
    simp only [Bool.and_eq_true, allB_iff]
    refine ⟨hii.2.1, hii.1, fun j h1 h2 => ?_⟩
    have hj := h j (by omega) (by omega)
    unfold fitB at hj
    simp only [Bool.and_eq_true, allB_iff] at hj
    have ho := hj.2.2 i (by omega) (by omega)
    have hm := beh_mono hb (show i < j by omega) (by omega)
    unfold okA at ho
    simp only [tog, decide_eq_true_eq]
    by_cases q : c i / 4 = c j / 4
    · rw [if_pos q] at ho; simp at ho; omega
    · rw [if_neg q] at ho; simp at ho; omega
def CX4 (u : Mem) (c : Nat → Nat) (k : Nat) : Prop := ∀ a, a < k → u 32 a = nI (c a) ∧ c a < 12
def SPX (u : Mem) (sp : Nat → Nat) (p b : Nat) : Prop := ∀ a, a < b → u 6 (4 * p + a) = nI (sp a) ∧ sp a ≤ 3
theorem x_spk {u : Mem} {sp : Nat → Nat} {p b a : Nat} (hp : p < 9) (h : SPX u sp p b) (ha : a < b) (hb : b ≤ 4) : e_X0_speakerColumn u (nI p) (nI a) = some (nI (sp a), u) := by
  unfold e_X0_speakerColumn
  rw [n_l4, n_mul, n_add, if_pos (by rw [n_inb (by omega)]; simp; omega), n_cl (by omega), Nat.mul_comm p 4, (h a ha).1]
theorem n_div4 {a : Nat} (h : a < 1000) : nI a / (4 : Int32) = nI (a / 4) := by rw [n_l4, n_div (by omega) (by omega) (by omega)]
theorem n_mod4 {a : Nat} (h : a < 1000) : nI a - nI a / (4 : Int32) * 4 = nI (a % 4) := by rw [n_l4, n_rem (by omega) (by omega) (by omega)]
theorem x_fits {u : Mem} {sp c : Nat → Nat} {p b j : Nat} (hp : p < 9) (hb : b ≤ 4) (hj : j < b) (hc : CX4 u c (j + 1)) (hs : SPX u sp p b) : e_X4_fits u (nI p) (nI j) = some (bI (fitB sp c j), u) := by
  have loop : ∀ (m a g : Nat), a + m = j → m < g → e_X4_fits_L66 g u (nI p) (nI j) (nI (sp j)) (nI (c j / 4)) (nI (c j % 4)) (nI a) = some (bI (allB (okA sp c j) a m), u) := by
    intro m
    induction m with
    | zero =>
      intro a g ha hg
      obtain ⟨g, rfl⟩ : ∃ k, g = k + 1 := ⟨g - 1, by omega⟩
      show e_X4_fits_L66_b _ _ _ _ _ _ _ _ = _
      unfold e_X4_fits_L66_b
      rw [if_pos (by rw [n_le (by omega) (by omega)]; omega)]; rfl
    | succ m ih =>
      intro a g ha hg
      obtain ⟨g, rfl⟩ : ∃ k, g = k + 1 := ⟨g - 1, by omega⟩
      obtain ⟨c1, c2⟩ := hc a (by omega)
      obtain ⟨d1, d2⟩ := hc j (by omega)
      have sa := (hs a (by omega)).2
      have sj := (hs j hj).2
      have hi := ih (a + 1) g (by omega) (by omega)
      show e_X4_fits_L66_b _ _ _ _ _ _ _ _ = _
      unfold e_X4_fits_L66_b e_X4_fits_J100 e_X4_fits_J114 e_X4_fits_J128
      rw [if_neg (by rw [n_le (by omega) (by omega)]; omega), x_spk hp hs (show a < b by omega) hb, bnd_some, if_pos (by rw [n_inb (by omega)]; simp; omega), n_cl (by omega), c1, n_div4 (by omega), nI_1]
      show _ = some (bI (okA sp c j a && allB (okA sp c j) (a + 1) m), u)
      by_cases q : c a / 4 = c j / 4
      · have ho : okA sp c j a = decide (sp a ≤ sp j) := by unfold okA; rw [if_pos q]
        rw [if_pos (by rw [q])]
        simp only [if_neg z1]
        by_cases q2 : sp j < sp a
        · rw [if_pos (by rw [n_lt (by omega) (by omega)]; exact q2), ho, show decide (sp a ≤ sp j) = false by simp; omega]; rfl
        · rw [if_neg (by rw [n_lt (by omega) (by omega)]; exact q2), hi, ho, show decide (sp a ≤ sp j) = true by simp; omega]; rfl
      · have ho : okA sp c j a = decide (c j % 4 ≠ sp a) := by unfold okA; rw [if_neg q]
        rw [if_neg (by rw [n_eq (by omega) (by omega)]; exact q)]
        simp only [if_true]
        by_cases q2 : c j % 4 = sp a
        · rw [if_pos (by rw [q2]), ho, show decide (c j % 4 ≠ sp a) = false by simp; exact q2]; rfl
        · rw [if_neg (by rw [n_eq (by omega) (by omega)]; exact q2), hi, ho, show decide (c j % 4 ≠ sp a) = true by simp; exact q2]; rfl
  obtain ⟨d1, d2⟩ := hc j (by omega)
  obtain ⟨e1, e2⟩ := hs j hj
  have j49 : e_X4_fits_J49 u (nI p) (nI j) (nI (sp j)) (nI (c j / 4)) (nI (c j % 4)) = some (bI (nea sp c j && allB (okA sp c j) 0 j), u) := by
    unfold e_X4_fits_J49
    have eq : ((if 0 ≤ nI (c j % 4) - nI (sp j) then nI (c j % 4) - nI (sp j) else 0 - (nI (c j % 4) - nI (sp j))) ≤ (1 : Int32)) = (c j % 4 ≤ sp j + 1 ∧ sp j ≤ c j % 4 + 1) := by
      have es : (nI (c j % 4) - nI (sp j)).toInt = (c j % 4 : Int) - sp j := by rw [pk_sub_toInt (by omega) (by omega)]; omega
      apply propext
      split
      · rename_i q
        rw [i_le, es] at *
        change 0 ≤ _ at q
        change _ ≤ 1 ↔ _
        omega
      · rename_i q
        rw [i_le, es] at q
        change ¬ 0 ≤ _ at q
        rw [i_le, i_sub (by rw [es]; change _ ≤ 0 - _; omega) (by rw [es]; change 0 - _ < _; omega), es]
        change 0 - _ ≤ 1 ↔ _
        omega
    simp only [eq]
    by_cases q : c j % 4 ≤ sp j + 1 ∧ sp j ≤ c j % 4 + 1
    · rw [if_pos q, show nea sp c j = true by unfold nea; exact decide_eq_true q]
      exact loop j 0 FU (by omega) (by unfold FU; omega)
    · rw [if_neg q, show nea sp c j = false by unfold nea; exact decide_eq_false q]; rfl
  have y1 : inb (nI j) 4 = true := by rw [n_inb (by omega)]; simp; omega
  unfold e_X4_fits
  rw [x_spk hp hs hj hb, bnd_some, if_pos y1, if_pos y1, n_cl (by omega), d1, n_div4 (by omega), ← n_div4 (by omega), n_mod4 (by omega), n_div4 (by omega), j49]
  unfold fitB
  by_cases q : j = 0
  · rw [if_pos (by rw [q]; decide), show beh c j = true by unfold beh; exact decide_eq_true (Or.inl q)]; rfl
  · obtain ⟨f1, f2⟩ := hc (j - 1) (by omega)
    rw [if_neg (by rw [n_l0, n_le (by omega) (by omega)]; omega), if_pos y1, n_l1, n_sub (by omega), if_pos (by rw [n_inb (by omega)]; simp; omega), n_cl (by omega), f1]
    simp (disch := omega) only [n_le]
    by_cases q2 : c j ≤ c (j - 1)
    · rw [if_pos q2, show beh c j = false by unfold beh; exact decide_eq_false (by omega)]; rfl
    · rw [if_neg q2, show beh c j = true by unfold beh; exact decide_eq_true (by omega)]; rfl
def CM (v : Mem) (c : Nat → Nat) (k : Nat) : Prop := ∀ a, a < k → v 11 a = nI (c a / 4) ∧ v 12 a = nI (c a % 4) ∧ c a < 12
def SPM (v : Mem) (sp : Nat → Nat) (p b : Nat) : Prop := ∀ a, a < b → v 1 (36 + (4 * p + a)) = nI (sp a) ∧ sp a ≤ 3
theorem m_spk {v : Mem} {sp : Nat → Nat} {p b a : Nat} (hp : p < 9) (h : SPM v sp p b) (ha : a < b) (hb : b ≤ 4) : e_X6_speakerAt v (nI p) (nI a) = some (nI (sp a), v) := by
  unfold e_X6_speakerAt
  rw [n_l4, n_l36, n_mul, n_add, n_add, if_pos (by rw [n_inb (by omega)]; simp; omega), n_cl (by omega), Nat.add_assoc, (h a ha).1]
theorem m_near {v : Mem} {sp c : Nat → Nat} {p b j : Nat} (hp : p < 9) (hb : b ≤ 4) (hj : j < b) (hc : CM v c b) (hs : SPM v sp p b) : e_X6_isNear v (nI p) (nI j) = some (bI (nea sp c j), v) := by
  obtain ⟨c1, c2, c3⟩ := hc j hj
  have s3 := (hs j hj).2
  have es : (nI (c j % 4) - nI (sp j)).toInt = (c j % 4 : Int) - sp j := by rw [pk_sub_toInt (by omega) (by omega)]; omega
  unfold e_X6_isNear
  rw [if_pos (by rw [n_inb (by omega)]; simp; omega), m_spk hp hs hj hb, bnd_some, n_cl (by omega), c2]
  by_cases q : c j % 4 ≤ sp j + 1 ∧ sp j ≤ c j % 4 + 1
  · rw [in_yes (by rw [i_lt, es]; change ¬ _ < (-1 : Int); omega) (by rw [i_lt, es]; change ¬ (1 : Int) < _; omega), bnd_some, if_pos vz1, show nea sp c j = true by unfold nea; exact decide_eq_true q]; rfl
  · rw [in_no (by rw [i_lt, i_lt, es]; change _ < (-1 : Int) ∨ (1 : Int) < _; omega), bnd_some, if_pos vz0, show nea sp c j = false by unfold nea; exact decide_eq_false q]; rfl
theorem m_behind {v : Mem} {c : Nat → Nat} {b j : Nat} (hb : b ≤ 4) (hj : j < b) (h0 : 1 ≤ j) (hc : CM v c b) : e_X6_isBehind v (nI j) = some (bI (beh c j), v) := by
  obtain ⟨c1, c2, c3⟩ := hc j hj
  obtain ⟨d1, d2, d3⟩ := hc (j - 1) (by omega)
  have y1 : inb (nI j) 4 = true := by rw [n_inb (by omega)]; simp; omega
  have y2 : inb (nI j - (1 : Int32)) 4 = true := by rw [n_l1, n_sub h0, n_inb (by omega)]; simp; omega
  have e2 : (nI j - (1 : Int32)).toNatClampNeg = j - 1 := by rw [n_l1, n_sub h0, n_cl (by omega)]
  unfold e_X6_isBehind beh
  simp only [y1, y2, e2, if_true, n_cl (show j < 2147483648 by omega), c1, c2, d1, d2]
  simp (disch := omega) only [n_lt, n_eq, n_le]
  by_cases q1 : c (j - 1) / 4 < c j / 4
  · rw [if_pos q1, decide_eq_true (show j = 0 ∨ c (j - 1) < c j by omega)]; rfl
  · rw [if_neg q1]
    by_cases q2 : c j / 4 = c (j - 1) / 4
    · rw [if_pos q2]
      by_cases q3 : c j % 4 ≤ c (j - 1) % 4
      · rw [if_pos q3, decide_eq_false (show ¬ (j = 0 ∨ c (j - 1) < c j) by omega)]; rfl
      · rw [if_neg q3, decide_eq_true (show j = 0 ∨ c (j - 1) < c j by omega)]; rfl
    · rw [if_neg q2, decide_eq_false (show ¬ (j = 0 ∨ c (j - 1) < c j) by omega)]; rfl
theorem m_tog {v : Mem} {sp c : Nat → Nat} {p b i j : Nat} (hp : p < 9) (hb : b ≤ 4) (hi : i < b) (hj : j < b) (hc : CM v c b) (hs : SPM v sp p b) : e_X6_goTogether v (nI p) (nI i) (nI j) = some (bI (tog sp c i j), v) := by
  obtain ⟨c1, c2, c3⟩ := hc i hi
  obtain ⟨d1, d2, d3⟩ := hc j hj
  have si := (hs i hi).2
  have sj := (hs j hj).2
  have y1 : inb (nI i) 4 = true := by rw [n_inb (by omega)]; simp; omega
  have y2 : inb (nI j) 4 = true := by rw [n_inb (by omega)]; simp; omega
  have j109 : ∀ x y z : Bool, e_X6_goTogether_J109 v (bI x) (bI y) (bI z) = some (bI (!x && (!y && !z)), v) := by
    intro x y z
    unfold e_X6_goTogether_J109
    cases x <;> cases y <;> cases z <;> rfl
  have j72 : ∀ x y : Bool, e_X6_goTogether_J72 v (nI p) (nI i) (nI j) (bI x) (bI y) = some (bI (!x && (!y && !(decide (c i / 4 < c j / 4 ∧ c j % 4 = sp i)))), v) := by
    intro x y
    unfold e_X6_goTogether_J72 e_X6_goTogether_J108
    simp only [y1, y2, if_true, n_cl (show i < 2147483648 by omega), n_cl (show j < 2147483648 by omega), c1, d1, d2, m_spk hp hs hi hb, bnd_some]
    simp (disch := omega) only [n_le, n_eq]
    by_cases q1 : c j / 4 ≤ c i / 4
    · rw [if_pos q1, decide_eq_false (show ¬ (c i / 4 < c j / 4 ∧ c j % 4 = sp i) by omega)]; exact j109 x y false
    · rw [if_neg q1]
      by_cases q2 : c j % 4 = sp i
      · rw [if_pos q2, decide_eq_true (show c i / 4 < c j / 4 ∧ c j % 4 = sp i from ⟨by omega, q2⟩)]; exact j109 x y true
      · rw [if_neg q2, decide_eq_false (show ¬ (c i / 4 < c j / 4 ∧ c j % 4 = sp i) from fun q => q2 q.2)]; exact j109 x y false
  have j35 : ∀ x : Bool, e_X6_goTogether_J35 v (nI p) (nI i) (nI j) (bI x) = some (bI (!x && (!(decide (c j / 4 < c i / 4 ∧ c i % 4 = sp j)) && !(decide (c i / 4 < c j / 4 ∧ c j % 4 = sp i)))), v) := by
    intro x
    unfold e_X6_goTogether_J35 e_X6_goTogether_J71
    simp only [y1, y2, if_true, n_cl (show i < 2147483648 by omega), n_cl (show j < 2147483648 by omega), c1, d1, c2, m_spk hp hs hj hb, bnd_some]
    simp (disch := omega) only [n_le, n_eq]
    by_cases q1 : c i / 4 ≤ c j / 4
    · rw [if_pos q1, decide_eq_false (show ¬ (c j / 4 < c i / 4 ∧ c i % 4 = sp j) by omega)]; exact j72 x false
    · rw [if_neg q1]
      by_cases q2 : c i % 4 = sp j
      · rw [if_pos q2, decide_eq_true (show c j / 4 < c i / 4 ∧ c i % 4 = sp j from ⟨by omega, q2⟩)]; exact j72 x true
      · rw [if_neg q2, decide_eq_false (show ¬ (c j / 4 < c i / 4 ∧ c i % 4 = sp j) from fun q => q2 q.2)]; exact j72 x false
  have ht : tog sp c i j = (!(decide (c i / 4 = c j / 4 ∧ sp j < sp i)) && (!(decide (c j / 4 < c i / 4 ∧ c i % 4 = sp j)) && !(decide (c i / 4 < c j / 4 ∧ c j % 4 = sp i)))) := by
    rw [Bool.eq_iff_iff]
    simp only [tog, Bool.and_eq_true, Bool.not_eq_true', decide_eq_true_eq, decide_eq_false_iff_not]
  rw [ht]
  unfold e_X6_goTogether e_X6_goTogether_J34
  simp only [y1, y2, if_true, n_cl (show i < 2147483648 by omega), n_cl (show j < 2147483648 by omega), c1, d1, m_spk hp hs hi hb, m_spk hp hs hj hb, bnd_some]
  simp (disch := omega) only [n_le, n_eq]
  by_cases q1 : c i / 4 = c j / 4
  · rw [if_pos q1]
    by_cases q2 : sp i ≤ sp j
    · rw [if_pos q2, decide_eq_false (show ¬ (c i / 4 = c j / 4 ∧ sp j < sp i) by omega)]; exact j35 false
    · rw [if_neg q2, decide_eq_true (show c i / 4 = c j / 4 ∧ sp j < sp i from ⟨q1, by omega⟩)]; exact j35 true
  · rw [if_neg q1, decide_eq_false (show ¬ (c i / 4 = c j / 4 ∧ sp j < sp i) from fun q => q1 q.1)]; exact j35 false
theorem m_good {v : Mem} {sp c : Nat → Nat} {p b : Nat} (hp : p < 9) (hb : b ≤ 4) (h27 : v 1 (27 + p) = nI b) (hc : CM v c b) (hs : SPM v sp p b) : e_X6_isGoodSetting v (nI p) = some (bI (gdB sp c b), v) := by
  have y1 : inb ((27 : Int32) + nI p) 74 = true := by rw [n_l27, n_add, n_inb (by omega)]; simp; omega
  have e1 : ((27 : Int32) + nI p).toNatClampNeg = 27 + p := by rw [n_l27, n_add, n_cl (by omega)]
  have inner : ∀ (k4 : Mem → Int32 → Int32 → Int32 → Option (Int32 × Mem)) (i : Nat), i < b → ∀ (m j g : Nat) (x : Bool), j + m = b → m < g → e_X6_isGoodSetting_L53 k4 g v (nI p) (bI x) (nI i) (nI j) = k4 v (nI p) (bI (x && allB (tog sp c i) j m)) (nI (i + 1)) := by
    intro k4 i hi m
    induction m with
    | zero =>
      intro j g x hj hg
      obtain ⟨g, rfl⟩ : ∃ k, g = k + 1 := ⟨g - 1, by omega⟩
      show e_X6_isGoodSetting_L53_b _ _ _ _ _ _ _ = _
      unfold e_X6_isGoodSetting_L53_b
      rw [if_pos y1, e1, h27, if_pos (by rw [n_le (by omega) (by omega)]; omega), n_l1, n_add]
      simp [allB]
    | succ m ih =>
      intro j g x hj hg
      obtain ⟨g, rfl⟩ : ∃ k, g = k + 1 := ⟨g - 1, by omega⟩
      show e_X6_isGoodSetting_L53_b _ _ _ _ _ _ _ = _
      unfold e_X6_isGoodSetting_L53_b e_X6_isGoodSetting_J86 e_X6_isGoodSetting_J87
      rw [if_pos y1, e1, h27, if_neg (by rw [n_le (by omega) (by omega)]; omega), n_l1, n_add]
      cases x
      · rw [if_pos (show bI false = 0 from rfl)]
        have := ih (j + 1) g false (by omega) (by omega)
        exact this
      · rw [if_neg (by decide), m_tog hp hb hi (by omega) hc hs, bnd_some]
        have := ih (j + 1) g (tog sp c i j) (by omega) (by omega)
        show _ = k4 v (nI p) (bI (true && (tog sp c i j && allB (tog sp c i) (j + 1) m))) (nI (i + 1))
        rw [Bool.true_and, ← this]
        cases tog sp c i j
        · rw [if_pos (show bI false = 0 from rfl)]; rfl
        · rw [if_neg (by decide)]; rfl
  have outer : ∀ (m i g : Nat) (x : Bool), i + m = b → m < g → e_X6_isGoodSetting_L4 g v (nI p) (bI x) (nI i) = some (bI (x && allB (fun i => nea sp c i && (beh c i && allB (tog sp c i) (i + 1) (b - (i + 1)))) i m), v) := by
    intro m
    induction m with
    | zero =>
      intro i g x hi hg
      obtain ⟨g, rfl⟩ : ∃ k, g = k + 1 := ⟨g - 1, by omega⟩
      show e_X6_isGoodSetting_L4_b _ _ _ _ _ = _
      unfold e_X6_isGoodSetting_L4_b
      rw [if_pos y1, e1, h27, if_pos (by rw [n_le (by omega) (by omega)]; omega), if_pos (vz_bI x)]
      simp [allB]
    | succ m ih =>
      intro i g x hi hg
      obtain ⟨g, rfl⟩ : ∃ k, g = k + 1 := ⟨g - 1, by omega⟩
      have j47 : ∀ y : Bool, e_X6_isGoodSetting_J47 (e_X6_isGoodSetting_L4 g) v (nI p) (nI i) (bI y) = some (bI (y && (allB (tog sp c i) (i + 1) (b - (i + 1)) && allB (fun i => nea sp c i && (beh c i && allB (tog sp c i) (i + 1) (b - (i + 1)))) (i + 1) m)), v) := by
        intro y
        unfold e_X6_isGoodSetting_J47
        rw [n_l1, n_add, inner _ i (by omega) (b - (i + 1)) (i + 1) FU y (by omega) (by unfold FU; omega), ih (i + 1) g _ (by omega) (by omega), Bool.and_assoc]
      show e_X6_isGoodSetting_L4_b _ _ _ _ _ = _
      unfold e_X6_isGoodSetting_L4_b e_X6_isGoodSetting_J46 e_X6_isGoodSetting_J42
      rw [if_pos y1, e1, h27, if_neg (by rw [n_le (by omega) (by omega)]; omega)]
      show _ = some (bI (x && ((nea sp c i && (beh c i && allB (tog sp c i) (i + 1) (b - (i + 1)))) && allB (fun i => nea sp c i && (beh c i && allB (tog sp c i) (i + 1) (b - (i + 1)))) (i + 1) m)), v)
      have jf := j47 false
      have jt := j47 true
      rw [show bI false = 0 from rfl] at jf
      rw [show bI true = 1 from rfl] at jt
      cases x
      · rw [if_pos (show bI false = 0 from rfl), jf]; rfl
      · rw [if_neg (by decide), m_near hp hb (by omega) hc hs, bnd_some]
        cases nea sp c i
        · rw [if_pos (show bI false = 0 from rfl), jf]; rfl
        · rw [if_neg (by decide)]
          by_cases q : i = 0
          · rw [if_pos (by rw [q]; rfl), show beh c i = true by unfold beh; exact decide_eq_true (Or.inl q), jt]; rfl
          · rw [if_neg (by rw [n_l0, n_eq (by omega) (by omega)]; exact q), m_behind hb (by omega) (by omega) hc, bnd_some]
            cases beh c i
            · rw [if_pos (show bI false = 0 from rfl), jf]; rfl
            · rw [if_neg (by decide), jt]; rfl
  rw [← gd_eq]
  exact outer b 0 FU true (by omega) (by unfold FU; omega)
