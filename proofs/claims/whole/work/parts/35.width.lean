theorem fb_holes : ∀ (m n : Nat) (f : Nat → Nat), (∀ i, i < n → f i < m) → (∀ i j, i < j → j < n → f i ≠ f j) → n ≤ m := by
  intro m
  induction m with
  | zero =>
    intro n f h1 _
    rcases Nat.eq_zero_or_pos n with h | h
    · omega
    · exact absurd (h1 0 h) (Nat.not_lt_zero _)
  | succ m ih =>
    intro n f h1 h2
    by_cases hx : ∃ i, i < n ∧ f i = m
    · obtain ⟨a, ha, hfa⟩ := hx
      have hg := ih (n - 1) (fun i => if i < a then f i else f (i + 1)) (by
        intro i hi
        by_cases q : i < a
        · simp only [if_pos q]
          have b1 := h1 i (by omega)
          have b2 := h2 i a q ha
          omega
        · simp only [if_neg q]
          have b1 := h1 (i + 1) (by omega)
          have b2 := h2 a (i + 1) (by omega) (by omega)
          omega) (by
        intro i j hij hj
        by_cases q : i < a
        · by_cases r : j < a
          · simp only [if_pos q, if_pos r]
            exact h2 i j hij (by omega)
          · simp only [if_pos q, if_neg r]
            exact h2 i (j + 1) (by omega) (by omega)
        · have r : ¬ j < a := by omega
          simp only [if_neg q, if_neg r]
          exact h2 (i + 1) (j + 1) (by omega) (by omega))
      omega
    · have hg := ih n f (fun i hi => by
        have b1 := h1 i hi
        have b2 : f i ≠ m := fun e => hx ⟨i, hi, e⟩
        omega) h2
      omega
/-- two of them in one place -/
theorem fb_twice {m n : Nat} {f : Nat → Nat} (h : ∀ i, i < n → f i < m) (hm : m < n) : ∃ i j, i < j ∧ j < n ∧ f i = f j := by
  refine Classical.byContradiction fun hx => ?_
  have := fb_holes m n f h (fun i j hij hj e => hx ⟨i, j, hij, hj, e⟩)
  omega
/-- as many as places, none twice: each place is taken -/
theorem fb_onto {n : Nat} {f : Nat → Nat} (h : ∀ i, i < n → f i < n) (h2 : ∀ i j, i < j → j < n → f i ≠ f j) {y : Nat} (hy : y < n) : ∃ i, i < n ∧ f i = y := by
  refine Classical.byContradiction fun hx => ?_
  have hne : ∀ i, i < n → f i ≠ y := fun i hi e => hx ⟨i, hi, e⟩
  have := fb_holes (n - 1) n (fun i => if f i < y then f i else f i - 1) (by
    intro i hi
    have b1 := h i hi
    have b2 := hne i hi
    by_cases q : f i < y
    · simp only [if_pos q]; omega
    · simp only [if_neg q]; omega) (by
    intro i j hij hj
    have b1 := hne i (by omega)
    have b2 := hne j hj
    have b3 := h2 i j hij hj
    by_cases q : f i < y
    · by_cases r : f j < y
      · simp only [if_pos q, if_pos r]; exact b3
      · simp only [if_pos q, if_neg r]; omega
    · by_cases r : f j < y
      · simp only [if_neg q, if_pos r]; omega
      · simp only [if_neg q, if_neg r]; omega)
  omega
theorem mh_loop {v : Mem} {t : Nat → Nat} {a n : Nat} (h9 : a + n ≤ 9) (hv : ∀ i, a ≤ i → i < a + n → v 1 (9 + i) = nI (t i) ∧ t i ≤ 6) : ∀ (m k f : Nat), k + m = n → m < f → e_X6_heightOf_L5 f v (nI a) (nI n) (nI (mxf t a k)) (nI (a + k)) = some (nI (mxf t a n), v) := by
  intro m
  induction m with
  | zero =>
    intro k f hk hf
    obtain ⟨f, rfl⟩ : ∃ g, f = g + 1 := ⟨f - 1, by omega⟩
    have e : k = n := by omega
    subst e
    show e_X6_heightOf_L5_b _ _ _ _ _ _ = _
    unfold e_X6_heightOf_L5_b
    rw [if_pos (by rw [n_add, n_le (by omega) (by omega)]; omega)]
  | succ m ih =>
    intro k f hk hf
    obtain ⟨f, rfl⟩ : ∃ g, f = g + 1 := ⟨f - 1, by omega⟩
    have hb : mxf t a k ≤ 6 := mxf_le (fun i h1 h2 => (hv i h1 (by omega)).2)
    have h3 := hv (a + k) (by omega) (by omega)
    have hi := ih (k + 1) f (by omega) (by omega)
    rw [show mxf t a (k + 1) = if mxf t a k < t (a + k) then t (a + k) else mxf t a k from rfl, ← Nat.add_assoc] at hi
    show e_X6_heightOf_L5_b _ _ _ _ _ _ = _
    unfold e_X6_heightOf_L5_b e_X6_heightOf_J41
    simp (disch := omega) only [n_l1, n_l9, n_add, n_le, n_inb, n_cl, h3.1, decide_eq_true_eq]
    rw [if_neg (by omega), if_pos (by omega)]
    by_cases q : t (a + k) ≤ mxf t a k
    · rw [if_pos q]
      rw [if_neg (by omega)] at hi
      exact hi
    · rw [if_neg q, if_pos (by omega)]
      rw [if_pos (by omega)] at hi
      exact hi
theorem mh {v : Mem} {t : Nat → Nat} {a n : Nat} (h9 : a + n ≤ 9) (hv : ∀ i, a ≤ i → i < a + n → v 1 (9 + i) = nI (t i) ∧ t i ≤ 6) : e_X6_heightOf v (nI a) (nI n) = some (nI (mxf t a n), v) := mh_loop h9 hv n 0 FU (by omega) (by unfold FU; omega)
theorem xg_loop {u : Mem} {t : Nat → Nat} {a n h : Nat} (h9 : a + n ≤ 9) (h6 : h ≤ 6) (hu : ∀ i, a ≤ i → i < a + n → u 3 i = nI (t i) ∧ t i ≤ h) : ∀ (m k f : Nat), k + m = n → m < f → e_X0_tierGaps_L13 f u (nI a) (nI n) (nI h) (nI (sgf t h a k)) (nI (a + k)) = some (nI (sgf t h a n), u) := by
  intro m
  induction m with
  | zero =>
    intro k f hk hf
    obtain ⟨f, rfl⟩ : ∃ g, f = g + 1 := ⟨f - 1, by omega⟩
    have e : k = n := by omega
    subst e
    show e_X0_tierGaps_L13_b _ _ _ _ _ _ _ = _
    unfold e_X0_tierGaps_L13_b
    rw [if_pos (by rw [n_add, n_le (by omega) (by omega)]; omega)]
  | succ m ih =>
    intro k f hk hf
    obtain ⟨f, rfl⟩ : ∃ g, f = g + 1 := ⟨f - 1, by omega⟩
    have h3 := hu (a + k) (by omega) (by omega)
    have hi := ih (k + 1) f (by omega) (by omega)
    show e_X0_tierGaps_L13_b _ _ _ _ _ _ _ = _
    unfold e_X0_tierGaps_L13_b
    simp (disch := omega) only [n_l1, n_add, n_le, n_inb, n_cl, h3.1, n_sub, decide_eq_true_eq]
    rw [if_neg (by omega), if_pos (by omega)]
    exact hi
theorem xg {u : Mem} {t : Nat → Nat} {a n : Nat} (h9 : a + n ≤ 9) (hu : ∀ i, a ≤ i → i < a + n → u 3 i = nI (t i) ∧ t i ≤ 6) : e_X0_tierGaps u (nI a) (nI n) = some (nI (sgf t (mxf t a n) a n), u) := by
  unfold e_X0_tierGaps
  rw [xh h9 hu, bnd_some]
  exact xg_loop h9 (mxf_le (fun i h1 h2 => (hu i h1 h2).2)) (fun i h1 h2 => ⟨(hu i h1 h2).1, mxf_ge h1 h2⟩) n 0 FU (by omega) (by unfold FU; omega)
theorem mg_loop {v : Mem} {t : Nat → Nat} {a n h : Nat} (h9 : a + n ≤ 9) (h6 : h ≤ 6) (hv : ∀ i, a ≤ i → i < a + n → v 1 (9 + i) = nI (t i) ∧ t i ≤ h) : ∀ (m k f : Nat), k + m = n → m < f → e_X6_gapsOf_L13 f v (nI a) (nI n) (nI h) (nI (sgf t h a k)) (nI (a + k)) = some (nI (sgf t h a n), v) := by
  intro m
  induction m with
  | zero =>
    intro k f hk hf
    obtain ⟨f, rfl⟩ : ∃ g, f = g + 1 := ⟨f - 1, by omega⟩
    have e : k = n := by omega
    subst e
    show e_X6_gapsOf_L13_b _ _ _ _ _ _ _ = _
    unfold e_X6_gapsOf_L13_b
    rw [if_pos (by rw [n_add, n_le (by omega) (by omega)]; omega)]
  | succ m ih =>
    intro k f hk hf
    obtain ⟨f, rfl⟩ : ∃ g, f = g + 1 := ⟨f - 1, by omega⟩
    have h3 := hv (a + k) (by omega) (by omega)
    have hi := ih (k + 1) f (by omega) (by omega)
    show e_X6_gapsOf_L13_b _ _ _ _ _ _ _ = _
    unfold e_X6_gapsOf_L13_b
    simp (disch := omega) only [n_l1, n_l9, n_add, n_le, n_inb, n_cl, h3.1, n_sub, decide_eq_true_eq]
    rw [if_neg (by omega), if_pos (by omega)]
    exact hi
theorem mg {v : Mem} {t : Nat → Nat} {a n : Nat} (h9 : a + n ≤ 9) (hv : ∀ i, a ≤ i → i < a + n → v 1 (9 + i) = nI (t i) ∧ t i ≤ 6) : e_X6_gapsOf v (nI a) (nI n) = some (nI (sgf t (mxf t a n) a n), v) := by
  unfold e_X6_gapsOf
  rw [mh h9 hv, bnd_some]
  exact mg_loop h9 (mxf_le (fun i h1 h2 => (hv i h1 h2).2)) (fun i h1 h2 => ⟨(hv i h1 h2).1, mxf_ge h1 h2⟩) n 0 FU (by omega) (by unfold FU; omega)
/-! WIDTHS. Of n weights: the sum, what each has, what is cut off, and who is served ahead of whom. -/
def bsf (w : Nat → Nat) (S i : Nat) : Nat := 12 * w i / S
def ctf (w : Nat → Nat) (S i : Nat) : Nat := 12 * w i % S
def cn (p : Nat → Bool) : Nat → Nat
  | 0 => 0
  | n + 1 => cn p n + if p n then 1 else 0
def prc (c : Nat → Nat) (i j : Nat) : Bool := decide (c i < c j) || (decide (c j = c i) && decide (j < i))
def rnk (c : Nat → Nat) (n i : Nat) : Nat := cn (prc c i) n
theorem cn_le (p : Nat → Bool) : ∀ n, cn p n ≤ n
  | 0 => Nat.le_refl 0
  | n + 1 => by have := cn_le p n; unfold cn; split <;> omega
theorem cn_sub {p q : Nat → Bool} : ∀ {n : Nat}, (∀ k, k < n → p k = true → q k = true) → cn p n ≤ cn q n
  | 0, _ => Nat.le_refl 0
  | n + 1, h => by
    have h1 := cn_sub (n := n) (fun k hk => h k (by omega))
    have h2 := h n (by omega)
    unfold cn
    by_cases hp : p n = true
    · rw [if_pos hp, if_pos (h2 hp)]; omega
    · rw [if_neg hp]; omega
theorem cn_lt {p q : Nat → Bool} : ∀ {n : Nat}, (∀ k, k < n → p k = true → q k = true) → ∀ x, x < n → p x = false → q x = true → cn p n < cn q n
  | 0, _, x, hx, _, _ => by omega
  | n + 1, h, x, hx, hp, hq => by
    have h2 := h n (by omega)
    unfold cn
    by_cases e : x = n
    · subst e
      have h1 := cn_sub (n := x) (fun k hk => h k (by omega))
      rw [hp, hq]; simp; omega
    · have h1 := cn_lt (n := n) (fun k hk => h k (by omega)) x (by omega) hp hq
      by_cases hpn : p n = true
      · rw [if_pos hpn, if_pos (h2 hpn)]; omega
      · rw [if_neg hpn]; omega
theorem prc_iff (c : Nat → Nat) (i j : Nat) : prc c i j = true ↔ c i < c j ∨ (c j = c i ∧ j < i) := by simp [prc]
theorem prc_no (c : Nat → Nat) (i j : Nat) : prc c i j = false ↔ ¬ (c i < c j ∨ (c j = c i ∧ j < i)) := by rw [← prc_iff]; simp
theorem rnk_lt {c : Nat → Nat} {n i : Nat} (hi : i < n) : rnk c n i < n := by
  have h1 := cn_lt (p := prc c i) (q := fun _ => true) (n := n) (fun _ _ _ => rfl) i hi ((prc_no c i i).mpr (by omega)) rfl
  have h2 := cn_le (fun _ => true) n
  unfold rnk
  omega
theorem rnk_mono {c : Nat → Nat} {n i j : Nat} (hj : j < n) (h : prc c i j = true) : rnk c n j < rnk c n i := by
  refine cn_lt (fun k hk hkj => ?_) j hj ((prc_no c j j).mpr (by omega)) h
  rw [prc_iff] at h hkj ⊢
  omega
theorem rnk_ne {c : Nat → Nat} {n i j : Nat} (hij : i < j) (hj : j < n) : rnk c n i ≠ rnk c n j := by
  rcases Nat.lt_trichotomy (c i) (c j) with h | h | h
  · have := rnk_mono (n := n) hj ((prc_iff c i j).mpr (Or.inl h)); omega
  · have := rnk_mono (n := n) (show i < n by omega) ((prc_iff c j i).mpr (Or.inr ⟨h, hij⟩)); omega
  · have := rnk_mono (n := n) (show i < n by omega) ((prc_iff c j i).mpr (Or.inl h)); omega
/-- the first greatest -/
def fam (g : Nat → Int) : Nat → Nat
  | 0 => 0
  | n + 1 => if g n ≤ g (fam g n) then fam g n else n
theorem fam_ok (g : Nat → Int) : ∀ n, fam g (n + 1) < n + 1 ∧ (∀ i, i < n + 1 → g i ≤ g (fam g (n + 1))) ∧ ∀ i, i < fam g (n + 1) → g i < g (fam g (n + 1))
  | 0 => by
    have e : fam g 1 = 0 := by simp [fam]
    rw [e]
    refine ⟨by omega, fun i hi => ?_, fun i hi => by omega⟩
    have : i = 0 := by omega
    subst this
    exact Int.le_refl _
  | n + 1 => by
    obtain ⟨h1, h2, h3⟩ := fam_ok g n
    have e : fam g (n + 1 + 1) = if g (n + 1) ≤ g (fam g (n + 1)) then fam g (n + 1) else n + 1 := rfl
    rw [e]
    by_cases q : g (n + 1) ≤ g (fam g (n + 1))
    · rw [if_pos q]
      refine ⟨by omega, fun i hi => ?_, h3⟩
      by_cases hi2 : i = n + 1
      · subst hi2; exact q
      · exact h2 i (by omega)
    · rw [if_neg q]
      refine ⟨by omega, fun i hi => ?_, fun i hi => ?_⟩
      · by_cases hi2 : i = n + 1
        · subst hi2; exact Int.le_refl _
        · have := h2 i (by omega); omega
      · have := h2 i (by omega); omega
/-- the one that is served next, k having been served -/
theorem fam_rnk {c : Nat → Nat} {n k : Nat} (hk : k < n) : rnk c n (fam (fun i => if rnk c n i < k then -1 else (c i : Int)) n) = k := by
  obtain ⟨m, rfl⟩ : ∃ m, n = m + 1 := ⟨n - 1, by omega⟩
  obtain ⟨h1, h2, h3⟩ := fam_ok (fun i => if rnk c (m + 1) i < k then -1 else (c i : Int)) m
  generalize hb : fam (fun i => if rnk c (m + 1) i < k then -1 else (c i : Int)) (m + 1) = b at h1 h2 h3
  obtain ⟨i0, hi0, e0⟩ := fb_onto (f := rnk c (m + 1)) (fun i hi => rnk_lt hi) (fun i j hij hj => rnk_ne hij hj) hk
  have hg0 : (if rnk c (m + 1) i0 < k then (-1 : Int) else (c i0 : Int)) ≤ (if rnk c (m + 1) b < k then (-1 : Int) else (c b : Int)) := h2 i0 hi0
  rw [if_neg (by omega)] at hg0
  have hbk : ¬ rnk c (m + 1) b < k := by
    intro q
    rw [if_pos q] at hg0
    omega
  rw [if_neg hbk] at hg0
  by_cases e : b = i0
  · rw [e]; exact e0
  · exfalso
    have hne : rnk c (m + 1) b ≠ k := by
      rcases Nat.lt_or_gt_of_ne e with q | q
      · have := rnk_ne (c := c) q hi0; omega
      · have := rnk_ne (c := c) q h1; omega
    by_cases hlt : i0 < b
    · have : (if rnk c (m + 1) i0 < k then (-1 : Int) else (c i0 : Int)) < (if rnk c (m + 1) b < k then (-1 : Int) else (c b : Int)) := h3 i0 hlt
      rw [if_neg (by omega), if_neg hbk] at this
      have := rnk_mono (c := c) (n := m + 1) h1 ((prc_iff c i0 b).mpr (Or.inl (by omega)))
      omega
    · rcases Nat.lt_or_ge (c i0) (c b) with q | q
      · have := rnk_mono (c := c) (n := m + 1) h1 ((prc_iff c i0 b).mpr (Or.inl q)); omega
      · have := rnk_mono (c := c) (n := m + 1) h1 ((prc_iff c i0 b).mpr (Or.inr ⟨by omega, by omega⟩)); omega
theorem nw_loop {v : Mem} {n : Nat} (hn : n ≤ 4) : ∀ (m i f : Nat), i + m = n → 1 ≤ i → m < f → e_X6_nextWider_L4 f v (nI n) (nI (fam (fun j => (v 6 j).toInt) i)) (nI i) = some (nI (fam (fun j => (v 6 j).toInt) n), v) := by
  intro m
  induction m with
  | zero =>
    intro i f hi h1 hf
    obtain ⟨f, rfl⟩ : ∃ g, f = g + 1 := ⟨f - 1, by omega⟩
    have e : i = n := by omega
    subst e
    show e_X6_nextWider_L4_b _ _ _ _ _ = _
    unfold e_X6_nextWider_L4_b
    rw [if_pos (by rw [n_le (by omega) (by omega)]; omega)]
  | succ m ih =>
    intro i f hi h1 hf
    obtain ⟨f, rfl⟩ : ∃ g, f = g + 1 := ⟨f - 1, by omega⟩
    have hb : fam (fun j => (v 6 j).toInt) i < i := by
      obtain ⟨k, rfl⟩ : ∃ k, i = k + 1 := ⟨i - 1, by omega⟩
      exact (fam_ok (fun j => (v 6 j).toInt) k).1
    have hi2 := ih (i + 1) f (by omega) (by omega) (by omega)
    rw [show fam (fun j => (v 6 j).toInt) (i + 1) = if (v 6 i).toInt ≤ (v 6 (fam (fun j => (v 6 j).toInt) i)).toInt then fam (fun j => (v 6 j).toInt) i else i from rfl] at hi2
    show e_X6_nextWider_L4_b _ _ _ _ _ = _
    unfold e_X6_nextWider_L4_b e_X6_nextWider_J29
    simp (disch := omega) only [n_l1, n_add, n_le, n_inb, n_cl, decide_eq_true_eq]
    rw [if_neg (by omega), if_pos (by omega), if_pos (by omega)]
    by_cases q : (v 6 i).toInt ≤ (v 6 (fam (fun j => (v 6 j).toInt) i)).toInt
    · rw [if_pos ((i_le _ _).mpr q)]
      rw [if_pos q] at hi2
      exact hi2
    · rw [if_neg (fun q2 => q ((i_le _ _).mp q2))]
      rw [if_neg q] at hi2
      exact hi2
theorem nw {v : Mem} {n : Nat} (h1 : 1 ≤ n) (hn : n ≤ 4) : e_X6_nextWider v (nI n) = some (nI (fam (fun j => (v 6 j).toInt) n), v) := by
  have := nw_loop (v := v) hn (n - 1) 1 FU (by omega) (by omega) (by unfold FU; omega)
  have e : fam (fun j => (v 6 j).toInt) 1 = 0 := by simp [fam]
  rw [e] at this
  exact this
theorem fam_cong {g h : Nat → Int} : ∀ {n : Nat}, (∀ i, i < n → g i = h i) → fam g n = fam h n
  | 0, _ => rfl
  | n + 1, q => by
    have e := fam_cong (n := n) (fun i hi => q i (by omega))
    show (if g n ≤ g (fam g n) then fam g n else n) = (if h n ≤ h (fam h n) then fam h n else n)
    rw [e, q n (by omega)]
    rcases Nat.eq_zero_or_pos n with h0 | h0
    · subst h0
      have : fam h 0 = 0 := rfl
      rw [this, q 0 (by omega)]
    · obtain ⟨k, rfl⟩ : ∃ k, n = k + 1 := ⟨n - 1, by omega⟩
      rw [q _ (by have := (fam_ok h k).1; omega)]
