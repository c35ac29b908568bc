theorem sbf_mono (f : Nat → Nat) : ∀ {k n : Nat}, k ≤ n → sbf f k ≤ sbf f n := by
  intro k n h
  induction n with
  | zero => have : k = 0 := by omega
            subst this; exact Nat.le_refl _
  | succ n ih =>
    by_cases e : k = n + 1
    · subst e; exact Nat.le_refl _
    · have := ih (by omega)
      show sbf f k ≤ sbf f n + f n
      omega
theorem bs_sum (w : Nat → Nat) (S : Nat) : ∀ k, S * sbf (bsf w S) k + sbf (ctf w S) k = 12 * sbf w k
  | 0 => by simp [sbf]
  | k + 1 => by
    have h := bs_sum w S k
    have d := Nat.div_add_mod (12 * w k) S
    show S * (sbf (bsf w S) k + bsf w S k) + (sbf (ctf w S) k + ctf w S k) = 12 * (sbf w k + w k)
    unfold bsf ctf at *
    rw [Nat.mul_add]
    omega
theorem bs_le {w : Nat → Nat} {n k : Nat} (h1 : 1 ≤ sbf w n) (hk : k ≤ n) : sbf (bsf w (sbf w n)) k ≤ 12 := by
  have h := bs_sum w (sbf w n) k
  have h2 := sbf_mono w hk
  have h3 : sbf w n * sbf (bsf w (sbf w n)) k ≤ sbf w n * 12 := by omega
  exact Nat.le_of_mul_le_mul_left h3 (by omega)
theorem left_lt {w : Nat → Nat} {n : Nat} (h1 : 1 ≤ sbf w n) (hn : 1 ≤ n) : 12 - sbf (bsf w (sbf w n)) n < n := by
  have h := bs_sum w (sbf w n) n
  have hb := bs_le h1 (Nat.le_refl n)
  have hc : sbf (ctf w (sbf w n)) n ≤ n * (sbf w n - 1) := sbf_le (fun i _ => by
    have := Nat.mod_lt (12 * w i) (show 0 < sbf w n by omega)
    unfold ctf
    omega)
  generalize sbf w n = S at *
  generalize sbf (bsf w S) n = b at *
  generalize sbf (ctf w S) n = c at *
  obtain ⟨l, rfl, hl⟩ : ∃ l, b = 12 - l ∧ l ≤ 12 := ⟨12 - b, by omega⟩
  apply Nat.lt_of_not_le
  intro q
  have e1 : 12 - (12 - l) = l := by omega
  rw [e1] at q
  have e2 : S * (12 - l) + S * l = 12 * S := by rw [← Nat.mul_add, Nat.mul_comm]; congr 1; omega
  have e3 : c = S * l := by omega
  have e4 : n * (S - 1) < n * S := Nat.mul_lt_mul_of_pos_left (by omega) (by omega)
  have e5 : S * n ≤ S * l := Nat.mul_le_mul_left S q
  rw [Nat.mul_comm n S] at e4
  omega
theorem n_rem2 (w : Nat → Nat) (S k : Nat) : nI (12 * w k) - nI (bsf w S k * S) = nI (ctf w S k) := by
  have d := Nat.div_add_mod (12 * w k) S
  have c := Nat.mul_comm (12 * w k / S) S
  unfold bsf ctf
  rw [n_sub (by omega)]
  congr 1
  omega
/-- the width of the i-th of n weights -/
def wdf (w : Nat → Nat) (n i : Nat) : Nat := bsf w (sbf w n) i + if rnk (ctf w (sbf w n)) n i < 12 - sbf (bsf w (sbf w n)) n then 1 else 0
theorem cn_suc (p : Nat → Bool) (n : Nat) : cn p (n + 1) = cn p n + if p n = true then 1 else 0 := rfl
theorem xw_loop {u : Mem} {w : Nat → Nat} {a n j : Nat} (h9 : a + n ≤ 9) (hj : j < n) (h1 : 1 ≤ sbf w n) (hS : sbf w n ≤ 81) (hu : ∀ i, i < n → u 2 (a + i) = nI (w i) ∧ w i ≤ 9) : ∀ (m k f : Nat), k + m = n → m < f → e_X0_tierWidth_L70 f u (nI a) (nI n) (nI (sbf w n)) (nI (a + j)) (nI (ctf w (sbf w n) j)) (nI (12 - sbf (bsf w (sbf w n)) k)) (nI (cn (prc (ctf w (sbf w n)) j) k)) (nI (a + k)) = some (nI (wdf w n j), u) := by
  intro m
  have hc9 : ∀ i, ctf w (sbf w n) i < 81 := fun i => by
    have := Nat.mod_lt (12 * w i) (show 0 < sbf w n by omega)
    unfold ctf
    omega
  induction m with
  | zero =>
    intro k f hk hf
    obtain ⟨f, rfl⟩ : ∃ g, f = g + 1 := ⟨f - 1, by omega⟩
    have e : k = n := by omega
    subst e
    have hwj := hu j hj
    have hr := cn_le (prc (ctf w (sbf w k)) j) k
    show e_X0_tierWidth_L70_b _ _ _ _ _ _ _ _ _ _ = _
    unfold e_X0_tierWidth_L70_b
    simp (disch := omega) only [n_l0, n_l1, n_l12, n_add, n_le, n_inb, n_cl, n_eq, hwj.1, n_mul, n_div, decide_eq_true_eq]
    rw [if_pos (by omega), if_pos (by omega), if_neg (by omega)]
    unfold wdf rnk
    by_cases q : 12 - sbf (bsf w (sbf w k)) k ≤ cn (prc (ctf w (sbf w k)) j) k
    · rw [if_pos q, if_neg (by omega)]; rfl
    · rw [if_neg q, if_pos (by omega)]; rfl
  | succ m ih =>
    intro k f hk hf
    obtain ⟨f, rfl⟩ : ∃ g, f = g + 1 := ⟨f - 1, by omega⟩
    have hi := ih (k + 1) f (by omega) (by omega)
    have hwk := hu k (by omega)
    have hr := cn_le (prc (ctf w (sbf w n)) j) k
    have hb := bs_le h1 (show k + 1 ≤ n by omega)
    rw [show sbf (bsf w (sbf w n)) (k + 1) = sbf (bsf w (sbf w n)) k + bsf w (sbf w n) k from rfl] at hb hi
    have hck := hc9 k
    have hcj := hc9 j
    have er : 12 * w k % sbf w n = ctf w (sbf w n) k := rfl
    have ed : 12 * w k / sbf w n = bsf w (sbf w n) k := rfl
    rw [cn_suc, ← Nat.add_assoc] at hi
    show e_X0_tierWidth_L70_b _ _ _ _ _ _ _ _ _ _ = _
    unfold e_X0_tierWidth_L70_b e_X0_tierWidth_J132 e_X0_tierWidth_J135
    simp (disch := omega) only [n_l0, n_l1, n_l12, n_add, n_le, n_lt, n_inb, n_cl, n_eq, hwk.1, n_mul, n_div, ed, decide_eq_true_eq]
    simp (disch := omega) only [n_rem2, n_lt, n_eq, n_sub]
    rw [if_neg (by omega), if_pos (by omega), if_neg (by omega), if_pos (by omega), if_neg (by omega)]
    have e12 : 12 - sbf (bsf w (sbf w n)) k - bsf w (sbf w n) k = 12 - (sbf (bsf w (sbf w n)) k + bsf w (sbf w n) k) := by omega
    rw [e12]
    by_cases q1 : ctf w (sbf w n) j < ctf w (sbf w n) k
    · rw [if_pos q1]
      rw [if_pos ((prc_iff _ _ _).mpr (Or.inl q1))] at hi
      exact hi
    · rw [if_neg q1]
      by_cases q2 : ctf w (sbf w n) k = ctf w (sbf w n) j
      · rw [if_pos q2]
        by_cases q3 : a + j ≤ a + k
        · rw [if_pos q3]
          rw [if_neg (by rw [prc_iff]; omega)] at hi
          exact hi
        · rw [if_neg q3]
          rw [if_pos ((prc_iff _ _ _).mpr (Or.inr ⟨q2, by omega⟩))] at hi
          exact hi
      · rw [if_neg q2]
        rw [if_neg (by rw [prc_iff]; omega)] at hi
        exact hi
theorem xw {u : Mem} {w : Nat → Nat} {a n j : Nat} (h9 : a + n ≤ 9) (hj : j < n) (hu : ∀ i, i < n → u 2 (a + i) = nI (w i) ∧ 1 ≤ w i ∧ w i ≤ 9) : e_X0_tierWidth u (nI a) (nI n) (nI j) = some (nI (wdf w n j), u) := by
  have hS : sbf w n ≤ n * 9 := sbf_le (fun i hi => (hu i hi).2.2)
  have h1 : 1 ≤ sbf w n := by
    have := sbf_mono w (show 1 ≤ n by omega)
    have h0 := (hu 0 (by omega)).2.1
    have : sbf w 1 = w 0 := by simp [sbf]
    omega
  have key : ∀ (m k f : Nat), k + m = n → m < f → e_X0_tierWidth_L6 f u (nI a) (nI n) (nI j) (nI (sbf w k)) (nI (a + k)) = some (nI (wdf w n j), u) := by
    intro m
    induction m with
    | zero =>
      intro k f hk hf
      obtain ⟨f, rfl⟩ : ∃ g, f = g + 1 := ⟨f - 1, by omega⟩
      have e : k = n := by omega
      subst e
      have hwj := hu j hj
      have hx := xw_loop h9 hj h1 (by omega) (fun i hi => ⟨(hu i hi).1, (hu i hi).2.2⟩) k 0 FU (by omega) (by unfold FU; omega)
      have er : 12 * w j % sbf w k = ctf w (sbf w k) j := rfl
      show e_X0_tierWidth_L6_b _ _ _ _ _ _ _ = _
      unfold e_X0_tierWidth_L6_b
      simp (disch := omega) only [n_l0, n_l1, n_l12, n_add, n_le, n_inb, n_cl, n_eq, hwj.1, n_mul, n_rem, er, decide_eq_true_eq]
      rw [if_pos (by omega), if_pos (by omega), if_pos (by omega), if_neg (by omega)]
      exact hx
    | succ m ih =>
      intro k f hk hf
      obtain ⟨f, rfl⟩ : ∃ g, f = g + 1 := ⟨f - 1, by omega⟩
      have hi := ih (k + 1) f (by omega) (by omega)
      have hwk := hu k (by omega)
      show e_X0_tierWidth_L6_b _ _ _ _ _ _ _ = _
      unfold e_X0_tierWidth_L6_b
      simp (disch := omega) only [n_l1, n_add, n_inb, n_cl, hwk.1, decide_eq_true_eq]
      rw [if_neg (by rw [n_le (by omega) (by omega)]; omega), if_pos (by omega)]
      exact hi
  exact key n 0 FU (by omega) (by unfold FU; omega)
/-- what the memory has when k have been served -/
def srv (w : Nat → Nat) (n k : Nat) (v : Mem) : Prop := ∀ i, i < n → v 5 i = nI (bsf w (sbf w n) i + if rnk (ctf w (sbf w n)) n i < k then 1 else 0) ∧ v 6 i = if rnk (ctf w (sbf w n)) n i < k then -1 else nI (ctf w (sbf w n) i)
theorem mw_pick {w : Nat → Nat} {n : Nat} (hn : 1 ≤ n) (hn4 : n ≤ 4) (h1 : 1 ≤ sbf w n) (hS : sbf w n ≤ 81) (hw : ∀ i, i < n → w i ≤ 9) : ∀ (r k f : Nat) (v : Mem), r + k < n → r < f → srv w n k v → ∃ v2, e_X6_layWidths_L100 f v (nI n) (nI r) = some v2 ∧ srv w n (r + k) v2 ∧ ∀ c, c ≠ 5 → c ≠ 6 → v2 c = v c := by
  intro r
  have hc9 : ∀ i, ctf w (sbf w n) i < 81 := fun i => by
    have := Nat.mod_lt (12 * w i) (show 0 < sbf w n by omega)
    unfold ctf
    omega
  induction r with
  | zero =>
    intro k f v hk hf hs
    obtain ⟨f, rfl⟩ : ∃ g, f = g + 1 := ⟨f - 1, by omega⟩
    refine ⟨v, ?_, by rw [Nat.zero_add]; exact hs, fun _ _ _ => rfl⟩
    show e_X6_layWidths_L100_b _ _ _ _ = _
    unfold e_X6_layWidths_L100_b
    rw [if_pos (by decide)]
  | succ r ih =>
    intro k f v hk hf hs
    obtain ⟨f, rfl⟩ : ∃ g, f = g + 1 := ⟨f - 1, by omega⟩
    have hb : fam (fun j => (v 6 j).toInt) n = fam (fun i => if rnk (ctf w (sbf w n)) n i < k then -1 else (ctf w (sbf w n) i : Int)) n := fam_cong (fun i hi => by
      rw [(hs i hi).2]
      split
      · rfl
      · exact i_nI (by have := hc9 i; omega))
    have hbn : fam (fun i => if rnk (ctf w (sbf w n)) n i < k then -1 else (ctf w (sbf w n) i : Int)) n < n := by
      obtain ⟨q, rfl⟩ : ∃ q, n = q + 1 := ⟨n - 1, by omega⟩
      exact (fam_ok _ q).1
    have hrk := fam_rnk (c := ctf w (sbf w n)) (n := n) (k := k) (by omega)
    have hnw := nw (v := v) hn hn4
    rw [hb] at hnw
    generalize fam (fun i => if rnk (ctf w (sbf w n)) n i < k then -1 else (ctf w (sbf w n) i : Int)) n = b at hnw hbn hrk
    obtain ⟨v2, e1, e2, e3⟩ := ih (k + 1) f (put (put v 5 b (v 5 b + 1)) 6 b (-1)) (by omega) (by omega) (fun i hi => by
      by_cases q : i = b
      · subst q
        rw [put_same, put_slot _ _ (by omega), put_same, (hs i hi).1, if_neg (by omega), if_pos (by omega), if_pos (by omega), n_l1, n_add]
        exact ⟨rfl, rfl⟩
      · have hne : rnk (ctf w (sbf w n)) n i ≠ rnk (ctf w (sbf w n)) n b := by
          rcases Nat.lt_or_gt_of_ne q with q | q
          · exact rnk_ne q hbn
          · exact (rnk_ne q hi).symm
        rw [put_slot _ _ (by omega), put_slot _ _ (by omega), put_slot _ _ (by omega), put_slot _ _ (by omega), (hs i hi).1, (hs i hi).2]
        by_cases q2 : rnk (ctf w (sbf w n)) n i < k
        · rw [if_pos q2, if_pos q2, if_pos (by omega), if_pos (by omega)]; exact ⟨rfl, rfl⟩
        · rw [if_neg q2, if_neg q2, if_neg (by omega), if_neg (by omega)]; exact ⟨rfl, rfl⟩)
    refine ⟨v2, ?_, by rw [show r + 1 + k = r + (k + 1) by omega]; exact e2, fun c h5 h6 => by rw [e3 c h5 h6, put_cell _ _ _ h6, put_cell _ _ _ h5]⟩
    show e_X6_layWidths_L100_b _ _ _ _ = _
    unfold e_X6_layWidths_L100_b
    have yb : inb (nI b) 4 = true := by rw [n_inb (by omega)]; simp; omega
    rw [if_neg (by rw [n_l0, n_le (by omega) (by omega)]; omega), hnw, bnd_some, if_pos yb, if_pos yb, if_pos yb, n_cl (by omega), pk_m1]
    exact e1
theorem mw {v : Mem} {w : Nat → Nat} {a n : Nat} (h9 : a + n ≤ 9) (hn : 1 ≤ n) (hn4 : n ≤ 4) (hv : ∀ i, i < n → v 1 (a + i) = nI (w i) ∧ 1 ≤ w i ∧ w i ≤ 9) : ∃ v2, e_X6_layWidths v (nI a) (nI n) = some v2 ∧ (∀ i, i < n → v2 5 i = nI (wdf w n i)) ∧ ∀ c, c ≠ 5 → c ≠ 6 → v2 c = v c := by
  have hS : sbf w n ≤ n * 9 := sbf_le (fun i hi => (hv i hi).2.2)
  have h1 : 1 ≤ sbf w n := by
    have := sbf_mono w (show 1 ≤ n by omega)
    have h0 := (hv 0 (by omega)).2.1
    have : sbf w 1 = w 0 := by simp [sbf]
    omega
  have hll := left_lt h1 hn
  have hbl := bs_le h1 (Nat.le_refl n)
  have fill : ∀ (m k f : Nat) (v1 : Mem), k + m = n → m < f → (∀ c, c ≠ 5 → c ≠ 6 → v1 c = v c) → (∀ i, i < k → v1 5 i = nI (bsf w (sbf w n) i) ∧ v1 6 i = nI (ctf w (sbf w n) i)) → ∃ v2, e_X6_layWidths_L38 f v1 (nI a) (nI n) (nI (sbf w n)) (nI (12 - sbf (bsf w (sbf w n)) k)) (nI k) = some v2 ∧ (∀ i, i < n → v2 5 i = nI (wdf w n i)) ∧ ∀ c, c ≠ 5 → c ≠ 6 → v2 c = v c := by
    intro m
    induction m with
    | zero =>
      intro k f v1 hk hf k1 k2
      obtain ⟨f, rfl⟩ : ∃ g, f = g + 1 := ⟨f - 1, by omega⟩
      have e : k = n := by omega
      subst e
      obtain ⟨v2, e1, e2, e3⟩ := mw_pick hn hn4 h1 (by omega) (fun i hi => (hv i hi).2.2) (12 - sbf (bsf w (sbf w k)) k) 0 FU v1 (by omega) (by unfold FU; omega) (fun i hi => by
        rw [if_neg (by omega), if_neg (by omega)]; exact k2 i hi)
      refine ⟨v2, ?_, fun i hi => (e2 i hi).1, fun c h5 h6 => by rw [e3 c h5 h6, k1 c h5 h6]⟩
      show e_X6_layWidths_L38_b _ _ _ _ _ _ _ = _
      unfold e_X6_layWidths_L38_b
      rw [if_pos (by rw [n_le (by omega) (by omega)]; omega)]
      exact e1
    | succ m ih =>
      intro k f v1 hk hf k1 k2
      obtain ⟨f, rfl⟩ : ∃ g, f = g + 1 := ⟨f - 1, by omega⟩
      have hwk := hv k (by omega)
      have hb := bs_le h1 (show k + 1 ≤ n by omega)
      obtain ⟨v2, e1, e2, e3⟩ := ih (k + 1) f (put (put v1 5 k (nI (bsf w (sbf w n) k))) 6 k (nI (ctf w (sbf w n) k))) (by omega) (by omega) (fun c h5 h6 => by rw [put_cell _ _ _ h6, put_cell _ _ _ h5]; exact k1 c h5 h6) (fun i hi => by
        by_cases q : i = k
        · subst q
          rw [put_same, put_slot _ _ (by omega), put_same]; exact ⟨rfl, rfl⟩
        · rw [put_slot _ _ (by omega), put_slot _ _ (by omega), put_slot _ _ (by omega), put_slot _ _ (by omega)]
          exact k2 i (by omega))
      refine ⟨v2, ?_, e2, e3⟩
      have er : 12 * w k % sbf w n = ctf w (sbf w n) k := rfl
      have ed : 12 * w k / sbf w n = bsf w (sbf w n) k := rfl
      rw [show sbf (bsf w (sbf w n)) (k + 1) = sbf (bsf w (sbf w n)) k + bsf w (sbf w n) k from rfl] at hb e1
      have e12 : 12 - sbf (bsf w (sbf w n)) k - bsf w (sbf w n) k = 12 - (sbf (bsf w (sbf w n)) k + bsf w (sbf w n) k) := by omega
      show e_X6_layWidths_L38_b _ _ _ _ _ _ _ = _
      unfold e_X6_layWidths_L38_b
      simp (disch := omega) only [n_l0, n_l1, n_l12, n_add, n_le, n_inb, n_cl, n_eq, Nat.zero_add, k1, hwk.1, n_mul, n_div, ed, put_same, decide_eq_true_eq]
      simp (disch := omega) only [n_rem2, n_sub]
      rw [if_neg (by omega), if_pos (by omega), if_neg (by omega), if_pos (by omega), if_neg (by omega), if_pos (by omega), if_pos (by omega), e12]
      exact e1
  have sum : ∀ (m k f : Nat), k + m = n → m < f → ∃ v2, e_X6_layWidths_L5 f v (nI a) (nI n) (nI (sbf w k)) (nI k) = some v2 ∧ (∀ i, i < n → v2 5 i = nI (wdf w n i)) ∧ ∀ c, c ≠ 5 → c ≠ 6 → v2 c = v c := by
    intro m
    induction m with
    | zero =>
      intro k f hk hf
      obtain ⟨f, rfl⟩ : ∃ g, f = g + 1 := ⟨f - 1, by omega⟩
      have e : k = n := by omega
      subst e
      obtain ⟨v2, e1, e2⟩ := fill k 0 FU v (by omega) (by unfold FU; omega) (fun _ _ _ => rfl) (fun i hi => by omega)
      refine ⟨v2, ?_, e2⟩
      show e_X6_layWidths_L5_b _ _ _ _ _ _ = _
      unfold e_X6_layWidths_L5_b
      rw [if_pos (by rw [n_le (by omega) (by omega)]; omega)]
      exact e1
    | succ m ih =>
      intro k f hk hf
      obtain ⟨f, rfl⟩ : ∃ g, f = g + 1 := ⟨f - 1, by omega⟩
      have hwk := hv k (by omega)
      obtain ⟨v2, e1, e2⟩ := ih (k + 1) f (by omega) (by omega)
      refine ⟨v2, ?_, e2⟩
      show e_X6_layWidths_L5_b _ _ _ _ _ _ = _
      unfold e_X6_layWidths_L5_b
      simp (disch := omega) only [n_l0, n_l1, n_add, n_le, n_inb, n_cl, Nat.zero_add, hwk.1, decide_eq_true_eq]
      rw [if_neg (by omega), if_pos (by omega)]
      exact e1
  exact sum n 0 FU (by omega) (by unfold FU; omega)
