/-- what the reference's memory says of it -/
def GM (v : Mem) (A : GA) : Prop := v 0 25 = nI A.1 ∧ (A.1 = 0 → v 0 26 = -6 ∧ v 0 27 = -6 ∧ v 0 28 = -6) ∧ (A.1 ≠ 0 → v 0 26 = nI A.2.1 ∧ v 0 27 = nI A.2.2.1 ∧ v 0 28 = nI A.2.2.2 ∧ A.2.1 ≤ 3 ∧ A.2.2.2 < 20736)
theorem n_rem12 {a : Nat} (h : a < 100000) : nI a - nI a / (12 : Int32) * 12 = nI (a % 12) := by rw [n_l12, n_rem (by omega) (by omega) (by omega)]
theorem n_div12 {a : Nat} (h : a < 100000) : nI a / (12 : Int32) = nI (a / 12) := by rw [n_l12, n_div (by omega) (by omega) (by omega)]
theorem n_rem4b {a : Nat} (h : a < 100000) : nI a - nI a / (4 : Int32) * 4 = nI (a % 4) := by rw [n_l4, n_rem (by omega) (by omega) (by omega)]
theorem m_layS {v0 : Mem} {num b : Nat} (hb : b ≤ 4) (hn : num < 20736) : ∀ (k g : Nat) (v : Mem), k ≤ b → k < g → KM v0 v → (∀ j, j < 29 → v 0 j = v0 0 j) → (∀ j, k ≤ j → j < b → v 11 j = nI (dgs 12 b num j / 4) ∧ v 12 j = nI (dgs 12 b num j % 4)) → ∃ v2, e_X6_laySetting_L15 g v (nI (num / 12 ^ (b - k))) (nI k - 1) = some v2 ∧ KM v0 v2 ∧ (∀ j, j < 29 → v2 0 j = v0 0 j) ∧ CM v2 (dgs 12 b num) b := by
  intro k
  induction k with
  | zero =>
    intro g v hk hg km h0 hc
    obtain ⟨g, rfl⟩ : ∃ z, g = z + 1 := ⟨g - 1, by omega⟩
    refine ⟨v, ?_, km, h0, fun a ha => ⟨(hc a (by omega) ha).1, (hc a (by omega) ha).2, Nat.mod_lt _ (by omega)⟩⟩
    show e_X6_laySetting_L15_b _ _ _ _ = _
    unfold e_X6_laySetting_L15_b
    rw [if_pos (by decide)]
  | succ k ih =>
    intro g v hk hg km h0 hc
    obtain ⟨g, rfl⟩ : ∃ z, g = z + 1 := ⟨g - 1, by omega⟩
    have hr : num / 12 ^ (b - (k + 1)) < 20736 := Nat.lt_of_le_of_lt (Nat.div_le_self _ _) hn
    have hd : dgs 12 b num k = num / 12 ^ (b - (k + 1)) % 12 := by unfold dgs; rw [show b - 1 - k = b - (k + 1) by omega]
    have hq : num / 12 ^ (b - (k + 1)) / 12 = num / 12 ^ (b - k) := by
      rw [Nat.div_div_eq_div_mul, ← Nat.pow_succ, show (b - (k + 1)).succ = b - k by omega]
    obtain ⟨v2, e1, e2⟩ := ih g (put (put v 11 k (nI (dgs 12 b num k / 4))) 12 k (nI (dgs 12 b num k % 4))) (by omega) (by omega) ((km.pt _ (by omega)).pt _ (by omega)) (fun j hj => by rw [put_cell _ _ _ (by omega), put_cell _ _ _ (by omega)]; exact h0 j hj) (fun j h1 h2 => by
      by_cases e : j = k
      · subst e
        rw [put_cell _ _ _ (by omega), put_same, put_same]; exact ⟨rfl, rfl⟩
      · rw [put_cell _ _ _ (by omega), put_slot _ _ (by omega), put_slot _ _ (by omega), put_cell _ _ _ (by omega)]; exact hc j (by omega) h2)
    refine ⟨v2, ?_, e2⟩
    show e_X6_laySetting_L15_b _ _ _ _ = _
    unfold e_X6_laySetting_L15_b
    have ek : nI (k + 1) - (1 : Int32) = nI k := nI_pred k
    have y1 : inb (nI k) 4 = true := by rw [n_inb (by omega)]; simp; omega
    rw [ek, if_neg (by rw [n_l0, n_lt (by omega) (by omega)]; omega), if_pos y1, if_pos y1, n_cl (by omega), n_rem12 (by omega), n_div12 (by omega), n_rem4b (by omega), n_div4 (by omega), hq, ← hd]
    have e4 : num / 12 ^ (b - (k + 1)) % 4 = dgs 12 b num k % 4 := by rw [hd]; omega
    rw [e4]
    have em : nI k + (-1 : Int32) = nI k - 1 := by
      rw [i_eq]
      rw [Int32.toInt_add, Int32.toInt_sub]
      rfl
    rw [em]
    exact e1
theorem m_lay {v : Mem} {num b p : Nat} (hp : p < 9) (hb : b ≤ 4) (hn : num < 20736) (h27 : v 1 (27 + p) = nI b) : ∃ v2, e_X6_laySetting v (nI p) (nI num) = some v2 ∧ KM v v2 ∧ (∀ j, j < 29 → v2 0 j = v 0 j) ∧ CM v2 (dgs 12 b num) b := by
  have y1 : inb ((27 : Int32) + nI p) 74 = true := by rw [n_l27, n_add, n_inb (by omega)]; simp; omega
  have e1 : ((27 : Int32) + nI p).toNatClampNeg = 27 + p := by rw [n_l27, n_add, n_cl (by omega)]
  unfold e_X6_laySetting
  rw [if_pos y1, e1, h27]
  have := m_layS (v0 := v) hb hn b FU v (Nat.le_refl b) (by unfold FU; omega) KM.rf (fun _ _ => rfl) (fun j h1 h2 => by omega)
  rw [Nat.sub_self, Nat.pow_zero, Nat.div_one] at this
  exact this
theorem m_deep {v : Mem} {c : Nat → Nat} {p b : Nat} (hp : p < 9) (hb : b ≤ 4) (h27 : v 1 (27 + p) = nI b) (hc : CM v c b) : ∀ (m k g : Nat), k + m = b → m < g → e_X6_deepOf_L4 g v (nI p) (nI (mxf (fun j => c j / 4 + 1) 0 k)) (nI k) = some (nI (mxf (fun j => c j / 4 + 1) 0 b), v) := by
  intro m
  have y1 : inb ((27 : Int32) + nI p) 74 = true := by rw [n_l27, n_add, n_inb (by omega)]; simp; omega
  have e1 : ((27 : Int32) + nI p).toNatClampNeg = 27 + p := by rw [n_l27, n_add, n_cl (by omega)]
  induction m with
  | zero =>
    intro k g hk hg
    obtain ⟨g, rfl⟩ : ∃ z, g = z + 1 := ⟨g - 1, by omega⟩
    have e : k = b := by omega
    subst e
    show e_X6_deepOf_L4_b _ _ _ _ _ = _
    unfold e_X6_deepOf_L4_b
    rw [if_pos y1, e1, h27, if_pos (by rw [n_le (by omega) (by omega)]; omega)]
  | succ m ih =>
    intro k g hk hg
    obtain ⟨g, rfl⟩ : ∃ z, g = z + 1 := ⟨g - 1, by omega⟩
    obtain ⟨c1, c2, c3⟩ := hc k (by omega)
    have hi := ih (k + 1) g (by omega) (by omega)
    have hm : mxf (fun j => c j / 4 + 1) 0 k ≤ 3 := mxf_le (fun j _ hj => by have := (hc j (by omega)).2.2; omega)
    have er : mxf (fun j => c j / 4 + 1) 0 (k + 1) = if mxf (fun j => c j / 4 + 1) 0 k < c k / 4 + 1 then c k / 4 + 1 else mxf (fun j => c j / 4 + 1) 0 k := by
      show (if mxf (fun j => c j / 4 + 1) 0 k < c (0 + k) / 4 + 1 then c (0 + k) / 4 + 1 else mxf (fun j => c j / 4 + 1) 0 k) = _
      rw [Nat.zero_add]
    rw [er] at hi
    have yk : inb (nI k) 4 = true := by rw [n_inb (by omega)]; simp; omega
    show e_X6_deepOf_L4_b _ _ _ _ _ = _
    unfold e_X6_deepOf_L4_b e_X6_deepOf_J41
    rw [if_pos y1, e1, h27, if_neg (by rw [n_le (by omega) (by omega)]; omega), if_pos yk, if_pos yk, n_cl (by omega), c1, nI_1, nI_1]
    by_cases q : c k / 4 + 1 ≤ mxf (fun j => c j / 4 + 1) 0 k
    · rw [if_pos (by rw [n_le (by omega) (by omega)]; exact q)]
      rw [if_neg (by omega)] at hi
      exact hi
    · rw [if_neg (by rw [n_le (by omega) (by omega)]; exact q)]
      rw [if_pos (by omega)] at hi
      exact hi
theorem deep_eq {sp : Nat → Nat} {b num : Nat} (h : gdB sp (dgs 12 b num) b = true) : mxf (fun j => dgs 12 b num j / 4 + 1) 0 b = dpn b num := by
  unfold dpn
  by_cases b0 : b = 0
  · subst b0; rfl
  · rw [if_neg b0]
    obtain ⟨k, rfl⟩ : ∃ k, b = k + 1 := ⟨b - 1, by omega⟩
    have hb : ∀ j, j < k + 1 → beh (dgs 12 (k + 1) num) j = true := fun j hj => by
      unfold gdB at h
      rw [allB_iff] at h
      have := h j (by omega) (by omega)
      unfold fitB at this
      rw [Bool.and_eq_true] at this
      exact this.1
    have hl : dgs 12 (k + 1) num k = num % 12 := by unfold dgs; rw [show k + 1 - 1 - k = 0 by omega, Nat.pow_zero, Nat.div_one]
    have hm : mxf (fun j => dgs 12 (k + 1) num j / 4 + 1) 0 k ≤ num % 12 / 4 + 1 := mxf_le (fun j _ hj => by
      have := beh_mono hb (show j < k by omega) (by omega)
      rw [hl] at this
      omega)
    show (if mxf (fun j => dgs 12 (k + 1) num j / 4 + 1) 0 k < dgs 12 (k + 1) num (0 + k) / 4 + 1 then dgs 12 (k + 1) num (0 + k) / 4 + 1 else mxf (fun j => dgs 12 (k + 1) num j / 4 + 1) 0 k) = _
    rw [Nat.zero_add, hl]
    split <;> omega
theorem FM_w (sp : Nat → Nat) (b num : Nat) (A : GA) : (FM sp b num A).1 ≤ A.1 + 1 := by
  unfold FM
  split
  · rw [stp_w]; omega
  · omega
theorem m_tryS {v0 : Mem} {sp : Nat → Nat} {p b : Nat} (hp : p < 9) (hb : b ≤ 4) (h27 : v0 1 (27 + p) = nI b) (hs : SPM v0 sp p b) {N : Nat} (hN : N ≤ 20736) : ∀ (m num g : Nat) (v : Mem) (A : GA), num + m = N → m < g → KM v0 v → A.1 ≤ num → GM v A → ∃ v2, e_X6_tryAllSettings_L53 g v (nI p) (nI N) (nI num) = some v2 ∧ KM v0 v2 ∧ GM v2 (rf (FM sp b) num m A) := by
  intro m
  induction m with
  | zero =>
    intro num g v A hnum hg km hA gm
    obtain ⟨g, rfl⟩ : ∃ z, g = z + 1 := ⟨g - 1, by omega⟩
    refine ⟨v, ?_, km, gm⟩
    show e_X6_tryAllSettings_L53_b _ _ _ _ _ = _
    unfold e_X6_tryAllSettings_L53_b
    rw [if_pos (by rw [n_le (by omega) (by omega)]; omega)]
  | succ m ih =>
    intro num g v A hnum hg km hA gm
    obtain ⟨g, rfl⟩ : ∃ z, g = z + 1 := ⟨g - 1, by omega⟩
    have e0 : rf (FM sp b) num (m + 1) A = rf (FM sp b) (num + 1) m (FM sp b num A) := by rw [Nat.add_comm m 1, rf_app]; rfl
    have hFw := FM_w sp b num A
    rw [e0]
    obtain ⟨v1, l1, l2, l3, l4⟩ := m_lay (v := v) (num := num) hp hb (by omega) (by rw [km.1 1 (by omega) (by omega)]; exact h27)
    have km1 := km.tr l2
    have h271 : v1 1 (27 + p) = nI b := by rw [km1.1 1 (by omega) (by omega)]; exact h27
    have hg1 := m_good hp hb h271 l4 (hs.kp (km1.1 1 (by omega) (by omega)))
    have gm1 : GM v1 A := by
      unfold GM
      rw [l3 25 (by omega), l3 26 (by omega), l3 27 (by omega), l3 28 (by omega)]; exact gm
    show ∃ v2, e_X6_tryAllSettings_L53_b _ _ _ _ _ = _ ∧ _
    unfold e_X6_tryAllSettings_L53_b
    rw [if_neg (by rw [n_le (by omega) (by omega)]; omega), l1, bnv_some, hg1, bnd_some]
    cases hgd : gdB sp (dgs 12 b num) b
    · rw [if_pos (show bI false = 0 from rfl)]
      unfold e_X6_tryAllSettings_J144
      rw [nI_1]
      have eF : FM sp b num A = A := by unfold FM; rw [hgd]; rfl
      rw [eF]
      exact ih (num + 1) g v1 A (by omega) (by omega) km1 (by omega) gm1
    · rw [if_neg (by decide)]
      have hde : e_X6_deepOf v1 (nI p) = some (nI (dpn b num), v1) := by
        have := m_deep hp hb h271 l4 b 0 FU (by omega) (by unfold FU; omega)
        rw [deep_eq hgd] at this
        exact this
      rw [hde, bnd_some]
      have hd3 := dpn_le b num
      have eF : FM sp b num A = stp b num A := by unfold FM; rw [hgd]; rfl
      rw [eF]
      rw [eF] at hFw
      obtain ⟨m25, m0, m1⟩ := gm1
      -- the tail: asDeep grows if as deep
      have j121 : ∀ (w : Mem) (l k f : Nat), KM v0 w → w 0 25 = nI (A.1 + 1) → w 0 26 = nI l → w 0 27 = nI k → w 0 28 = nI f → l ≤ 3 → f < 20736 → stp b num A = (A.1 + 1, l, (if dpn b num = l then k + 1 else k), f) → ∃ v2, e_X6_tryAllSettings_J121 (e_X6_tryAllSettings_L53 g) w (nI p) (nI N) (nI num) (nI (dpn b num)) = some v2 ∧ KM v0 v2 ∧ GM v2 (rf (FM sp b) (num + 1) m (stp b num A)) := by
        intro w l k f kw w25 w26 w27 w28 hl hf hst
        unfold e_X6_tryAllSettings_J121 e_X6_tryAllSettings_J140 e_X6_tryAllSettings_J144
        have hw1 := stp_w b num A
        rw [w26, w27, nI_1]
        by_cases q : dpn b num = l
        · rw [if_pos (by rw [q]), nI_1]
          refine ih (num + 1) g _ _ (by omega) (by omega) (kw.pt _ (by omega)) (by omega) ?_
          rw [hst, if_pos q]
          refine ⟨by rw [put_slot _ _ (by omega)]; exact w25, fun h => by simp at h, fun _ => ⟨by rw [put_slot _ _ (by omega)]; exact w26, by rw [put_same], by rw [put_slot _ _ (by omega)]; exact w28, hl, hf⟩⟩
        · rw [if_neg (by rw [n_eq (by omega) (by omega)]; exact q), n_l0, n_add]
          try rw [nI_1]
          refine ih (num + 1) g _ _ (by omega) (by omega) (kw.pt _ (by omega)) (by omega) ?_
          rw [hst, if_neg q]
          refine ⟨by rw [put_slot _ _ (by omega)]; exact w25, fun h => by simp at h, fun _ => ⟨by rw [put_slot _ _ (by omega)]; exact w26, by rw [put_same]; rfl, by rw [put_slot _ _ (by omega)]; exact w28, hl, hf⟩⟩
      have j105 : (A.1 = 0 ∨ dpn b num < A.2.1) → ∃ v2, e_X6_tryAllSettings_J105 (e_X6_tryAllSettings_L53 g) (put v1 0 25 (nI (A.1 + 1))) (nI p) (nI N) (nI num) (nI (dpn b num)) = some v2 ∧ KM v0 v2 ∧ GM v2 (rf (FM sp b) (num + 1) m (stp b num A)) := by
        intro hA2
        unfold e_X6_tryAllSettings_J105
        refine j121 _ (dpn b num) 0 num ((((km1.pt _ (by omega)).pt _ (by omega)).pt _ (by omega)).pt _ (by omega)) ?_ ?_ ?_ ?_ hd3 (by omega) ?_
        · simp [put_get]
        · simp [put_get]
        · simp [put_get]; rfl
        · simp [put_get]
        · unfold stp
          rw [if_pos hA2, if_pos rfl]
      rw [m25, nI_1]
      by_cases w0 : A.1 = 0
      · rw [(m0 w0).2.2, if_pos (by decide)]
        exact j105 (Or.inl w0)
      · obtain ⟨a26, a27, a28, a5, a6⟩ := m1 w0
        rw [a28, if_neg (by rw [n_l0, n_lt (by omega) (by omega)]; omega), a26]
        by_cases hlt : dpn b num < A.2.1
        · rw [if_neg (by rw [n_le (by omega) (by omega)]; omega)]
          exact j105 (Or.inr hlt)
        · rw [if_pos (by rw [n_le (by omega) (by omega)]; omega)]
          refine j121 _ A.2.1 A.2.2.1 A.2.2.2 (km1.pt _ (by omega)) ?_ ?_ ?_ ?_ a5 a6 ?_
          · rw [put_same]
          · rw [put_slot _ _ (by omega)]; exact a26
          · rw [put_slot _ _ (by omega)]; exact a27
          · rw [put_slot _ _ (by omega)]; exact a28
          · unfold stp
            rw [if_neg (by omega)]
            by_cases heq : dpn b num = A.2.1
            · rw [if_pos heq, if_pos heq]
            · rw [if_neg heq, if_neg heq]
theorem m_tryAll {v : Mem} {sp : Nat → Nat} {p b : Nat} (hp : p < 9) (hb : b ≤ 4) (h27 : v 1 (27 + p) = nI b) (hs : SPM v sp p b) : ∃ v2, e_X6_tryAllSettings v (nI p) = some v2 ∧ KM v v2 ∧ GM v2 (rf (FM sp b) 0 (12 ^ b) (0, 0, 0, 0)) := by
  have y1 : inb ((27 : Int32) + nI p) 74 = true := by rw [n_l27, n_add, n_inb (by omega)]; simp; omega
  have e1 : ((27 : Int32) + nI p).toNatClampNeg = 27 + p := by rw [n_l27, n_add, n_cl (by omega)]
  have km : KM v (put (put (put (put v 0 25 (0 : Int32)) 0 26 (-6 : Int32)) 0 27 (-6 : Int32)) 0 28 (-6 : Int32)) := (((KM.rf.pt _ (by omega)).pt _ (by omega)).pt _ (by omega)).pt _ (by omega)
  have h12 : 12 ^ b ≤ 20736 := by
    rcases (by omega : b = 0 ∨ b = 1 ∨ b = 2 ∨ b = 3 ∨ b = 4) with h | h | h | h | h <;> subst h <;> decide
  generalize hw : put (put (put (put v 0 25 (0 : Int32)) 0 26 (-6 : Int32)) 0 27 (-6 : Int32)) 0 28 (-6 : Int32) = w at km
  have h27w : w 1 (27 + p) = nI b := by rw [km.1 1 (by omega) (by omega)]; exact h27
  have gm : GM w (0, 0, 0, 0) := by
    rw [← hw]
    refine ⟨by simp [put_get]; rfl, fun _ => ⟨by simp [put_get], by simp [put_get], by simp [put_get]⟩, fun h => absurd rfl h⟩
  have key : ∀ (m k g : Nat), k + m = b → m < g → ∃ v2, e_X6_tryAllSettings_L27 g w (nI p) (nI (12 ^ k)) (nI k) = some v2 ∧ KM v v2 ∧ GM v2 (rf (FM sp b) 0 (12 ^ b) (0, 0, 0, 0)) := by
    intro m
    induction m with
    | zero =>
      intro k g hk hg
      obtain ⟨g, rfl⟩ : ∃ z, g = z + 1 := ⟨g - 1, by omega⟩
      have e : k = b := by omega
      subst e
      obtain ⟨v2, r1, r2, r3⟩ := m_tryS hp hb h27w (hs.kp (km.1 1 (by omega) (by omega))) h12 (12 ^ k) 0 FU w (0, 0, 0, 0) (by omega) (by unfold FU; omega) KM.rf (Nat.le_refl 0) gm
      refine ⟨v2, ?_, km.tr r2, r3⟩
      show e_X6_tryAllSettings_L27_b _ _ _ _ _ = _
      unfold e_X6_tryAllSettings_L27_b
      rw [if_pos y1, e1, h27w, if_pos (by rw [n_le (by omega) (by omega)]; omega)]
      exact r1
    | succ m ih =>
      intro k g hk hg
      obtain ⟨g, rfl⟩ : ∃ z, g = z + 1 := ⟨g - 1, by omega⟩
      obtain ⟨v2, r1, r2⟩ := ih (k + 1) g (by omega) (by omega)
      refine ⟨v2, ?_, r2⟩
      show e_X6_tryAllSettings_L27_b _ _ _ _ _ = _
      unfold e_X6_tryAllSettings_L27_b
      rw [if_pos y1, e1, h27w, if_neg (by rw [n_le (by omega) (by omega)]; omega), n_l12, n_mul, nI_1, ← Nat.pow_succ]
      exact r1
  unfold e_X6_tryAllSettings
  rw [hw]
  exact key b 0 FU (by omega) (by unfold FU; omega)
theorem st_good : St2 RR e_X5_good e_X6_good := by
  intro u v hR a x
  obtain ⟨B, P, I0, I1, h1, h2, h3, h4, h5, h6⟩ := id hR
  have h9 := h1.1
  have h30 : v 1 72 = nI (B 0 0) := h3.1
  unfold e_X5_good e_X6_good
  rcases hp_dec a (B 0 0) with ha | ha
  case inr => exact ⟨-1, u, v, by simp only [has_no h1 h2 ha, bnd_some, if_true], by simp only [isp_no h9 h30 ha, bnd_some, if_true], hR⟩
  obtain ⟨p, hp, rfl⟩ := hp_ex ha (by omega)
  obtain ⟨x1, x2, x3, x4⟩ := bk_w h2 hp
  obtain ⟨m1, m2, m3, m4⟩ := bm_w h3 hp
  have b4 := (h1.2.2.2 p hp).2.2.2.1
  have y1 : inb (nI p) 9 = true := by rw [n_inb (by omega)]; simp; omega
  have y2 : inb ((27 : Int32) + nI p) 74 = true := by rw [n_l27, n_add, n_inb (by omega)]; simp; omega
  have e2 : ((27 : Int32) + nI p).toNatClampNeg = 27 + p := by rw [n_l27, n_add, n_cl (by omega)]
  rw [has_yes h1 h2 hp, isp_yes h9 h30 hp, bnd_some, bnd_some, if_neg z1, if_neg z1]
  -- the class's find
  have kx0 : KX u (put (put (put u 31 2 (0 : Int32)) 31 3 (0 : Int32)) 31 4 (0 : Int32)) := ((KX.rf.pt _ _ (by omega)).pt _ _ (by omega)).pt _ _ (by omega)
  have h12 : 12 ^ B 4 p ≤ 20736 := by
    rcases (by omega : B 4 p = 0 ∨ B 4 p = 1 ∨ B 4 p = 2 ∨ B 4 p = 3 ∨ B 4 p = 4) with h | h | h | h | h <;> rw [h] <;> decide
  obtain ⟨u2, f1, f2, f3, f4⟩ := x_setFrom (u0 := u) (sp := fun a => B 5 (4 * p + a)) (show p < 9 by omega) b4 x4 (SPX.of h1 h2 hp) (B 4 p) 0 0 RD (put (put (put u 31 2 (0 : Int32)) 31 3 (0 : Int32)) 31 4 (0 : Int32)) (0, 0, 0, 0) (by omega) (by unfold RD; omega) kx0 (fun a ha => by omega) ⟨by simp [put_get]; rfl, fun h => absurd rfl h⟩ (by omega)
  have hfind : e_X4_findGood u (nI p) = some u2 := by
    unfold e_X4_findGood
    rw [show (0 : Int32) = nI 0 from rfl] at *
    rw [f1, bnv_some]
  obtain ⟨v2, t1, t2, t3⟩ := m_tryAll (show p < 9 by omega) b4 m4 (SPM.of h1 h3 hp)
  have htree := tree (sp := fun a => B 5 (4 * p + a)) (b := B 4 p) (B 4 p) 0 0 (0, 0, 0, 0) (by omega)
  rw [Nat.zero_mul, if_pos (show gdB (fun a => B 5 (4 * p + a)) (dgs 12 0 0) 0 = true from rfl)] at htree
  rw [htree] at t3
  have hAw := TX_w (sp := fun a => B 5 (4 * p + a)) (b := B 4 p) (B 4 p) 0 (0, 0, 0, 0)
  generalize TX (fun a => B 5 (4 * p + a)) (B 4 p) (B 4 p) 0 (0, 0, 0, 0) = A at f4 t3 hAw
  change A.1 ≤ 0 + 12 ^ B 4 p at hAw
  have hR2 : RR u2 v2 := hR.kp f2 t2
  obtain ⟨q25, q0, q1⟩ := t3
  obtain ⟨g31, g0⟩ := f4
  by_cases hx : (0 ≤ x.toInt ∧ x.toInt ≤ 2) ∨ (10 ≤ x.toInt ∧ x.toInt ≤ 13)
  case neg =>
    refine ⟨-2, u, v, ?_, ?_, hR⟩
    · unfold e_X5_good_J29 e_X5_good_J30
      have s1 : (if x < 0 then some ((-2 : Int32), u) else if x ≤ 2 then e_X5_good_J47 u (nI p) x 0 else some (-2, u)) = some (-2, u) := by
        split
        · rfl
        · rename_i q
          rw [if_neg]
          rw [i_lt] at q
          rw [i_le]
          change ¬ x.toInt < 0 at q
          change ¬ x.toInt ≤ 2
          omega
      rw [if_pos rfl, if_neg z1, s1]
      split
      · rfl
      · rename_i q
        rw [if_pos]
        rw [i_lt] at q
        rw [i_le]
        change ¬ x.toInt < 10 at q
        change 14 ≤ x.toInt
        omega
    · rw [in_no (by rw [i_lt, i_lt]; change x.toInt < 0 ∨ 2 < x.toInt; omega), bnd_some, if_pos rfl, in_no (by rw [i_lt, i_lt]; change x.toInt < 10 ∨ 13 < x.toInt; omega), bnd_some, if_pos rfl]
  obtain ⟨k, hk, rfl⟩ : ∃ k, (k ≤ 2 ∨ (10 ≤ k ∧ k ≤ 13)) ∧ x = nI k := ⟨x.toInt.toNat, by omega, i_of (by omega)⟩
  rcases hk with hk | hk
  · -- the counts
    have s1 : e_X5_good_J29 u (nI p) (nI k) = e_X5_good_J70 u (nI p) (nI k) := by
      unfold e_X5_good_J29 e_X5_good_J30 e_X5_good_J47
      rw [if_pos rfl, if_neg (by rw [n_l0, n_lt (by omega) (by omega)]; omega), if_pos (by rw [n_l2, n_le (by omega) (by omega)]; omega), if_pos rfl]
    rw [if_pos (by rw [n_l10, n_lt (by omega) (by omega)]; omega), s1, in_yes (by rw [n_l0, n_lt (by omega) (by omega)]; omega) (by rw [n_l2, n_lt (by omega) (by omega)]; omega), bnd_some, if_neg z1]
    unfold e_X5_good_J70 e_X6_good_J33
    rw [hfind, t1, bnv_some, bnv_some, g31]
    have k0 : (nI k = (0 : Int32)) = (k = 0) := by rw [n_l0, n_eq (by omega) (by omega)]
    have k1 : (nI k = (1 : Int32)) = (k = 1) := by rw [n_l1, n_eq (by omega) (by omega)]
    have k2 : (nI k = (2 : Int32)) = (k = 2) := by rw [n_l2, n_eq (by omega) (by omega)]
    have kA : (nI A.1 = (0 : Int32)) = (A.1 = 0) := by rw [n_l0, n_eq (by omega) (by omega)]
    simp only [k0, k1, k2, kA]
    by_cases w0 : A.1 = 0
    · obtain ⟨c1, c2, c3⟩ := q0 w0
      simp only [if_pos w0]
      rcases (by omega : k = 0 ∨ k = 1 ∨ k = 2) with e | e | e <;> subst e
      · exact ⟨nI A.1, u2, v2, rfl, by rw [if_pos rfl, q25], hR2⟩
      · exact ⟨-6, u2, v2, rfl, by rw [if_neg (by decide), if_pos rfl, c1], hR2⟩
      · exact ⟨-6, u2, v2, rfl, by rw [if_neg (by decide), if_neg (by decide), if_pos rfl, c2], hR2⟩
    · obtain ⟨c1, c2, c3, c4, c5⟩ := q1 w0
      obtain ⟨d1, d2, d3, d4⟩ := g0 w0
      simp only [if_neg w0]
      rcases (by omega : k = 0 ∨ k = 1 ∨ k = 2) with e | e | e <;> subst e
      · exact ⟨nI A.1, u2, v2, rfl, by rw [if_pos rfl, q25], hR2⟩
      · exact ⟨nI A.2.1, u2, v2, by rw [if_neg (by decide), if_pos rfl, d1], by rw [if_neg (by decide), if_pos rfl, c1], hR2⟩
      · exact ⟨nI A.2.2.1, u2, v2, by rw [if_neg (by decide), if_neg (by decide), if_pos rfl, d2], by rw [if_neg (by decide), if_neg (by decide), if_pos rfl, c2], hR2⟩
  · -- the first of the least deep
    obtain ⟨i, hi, rfl⟩ : ∃ i, i < 4 ∧ k = 10 + i := ⟨k - 10, by omega, by omega⟩
    have ei : nI (10 + i) - (10 : Int32) = nI i := by rw [n_l10, n_sub (by omega)]; congr 1; omega
    have yi : inb (nI i) 4 = true := by rw [n_inb (by omega)]; simp; omega
    have k0 : ¬ (nI (10 + i) = (0 : Int32)) := by rw [n_l0, n_eq (by omega) (by omega)]; omega
    have k1 : ¬ (nI (10 + i) = (1 : Int32)) := by rw [n_l1, n_eq (by omega) (by omega)]; omega
    have k2 : ¬ (nI (10 + i) = (2 : Int32)) := by rw [n_l2, n_eq (by omega) (by omega)]; omega
    have kA : (nI A.1 = (0 : Int32)) = (A.1 = 0) := by rw [n_l0, n_eq (by omega) (by omega)]
    have h27 : v2 1 (27 + p) = nI (B 4 p) := by rw [t2.1 1 (by omega) (by omega)]; exact m4
    rw [if_neg (by rw [n_l10, n_lt (by omega) (by omega)]; omega), if_neg (by rw [n_l14, n_le (by omega) (by omega)]; omega), in_no (Or.inr (by rw [n_l2, n_lt (by omega) (by omega)]; omega)), bnd_some, if_pos rfl, in_yes (by rw [n_l10, n_lt (by omega) (by omega)]; omega) (by rw [n_l13, n_lt (by omega) (by omega)]; omega), bnd_some, if_neg z1]
    unfold e_X5_good_J30 e_X5_good_J47 e_X5_good_J70 e_X6_good_J33 e_X6_firstAt
    rw [if_neg z1, if_neg z1, if_pos y1, n_cl (by omega), x4, ei, t1, bnv_some, if_neg k0, if_neg k1, if_neg k2, if_pos y2, e2, h27]
    simp only [n_lt (show i < 2147483648 by omega) (show B 4 p < 2147483648 by omega)]
    by_cases hib : i < B 4 p
    · rw [if_pos hib, if_pos hib, hfind, bnv_some, if_neg k0, g31]
      simp only [kA]
      by_cases w0 : A.1 = 0
      · obtain ⟨c1, c2, c3⟩ := q0 w0
        exact ⟨-6, u2, v2, by rw [if_pos w0], by rw [c3, if_pos (by decide), bnd_some], hR2⟩
      · obtain ⟨c1, c2, c3, c4, c5⟩ := q1 w0
        obtain ⟨d1, d2, d3, d4⟩ := g0 w0
        obtain ⟨v3, r1, r2, r3, r4⟩ := m_lay (v := v2) (num := A.2.2.2) (show p < 9 by omega) b4 c5 h27
        obtain ⟨s1, s2, s3⟩ := r4 i hib
        refine ⟨nI (dgs 12 (B 4 p) A.2.2.2 i), u2, v3, ?_, ?_, hR.kp f2 (t2.tr r2)⟩
        · rw [if_neg w0, if_neg k1, if_neg k2, if_pos yi, n_cl (by omega), d4 i hib]
        · rw [c3, if_neg (by rw [n_l0, n_lt (by omega) (by omega)]; omega), r1, bnv_some, if_pos yi, if_pos yi, n_cl (by omega), s1, s2, bnd_some, n_l4, n_mul, n_add]
          congr 3
          omega
    · rw [if_neg hib, if_neg hib]
      refine ⟨-6, u, v2, rfl, ?_, hR.kp KX.rf t2⟩
      split <;> rfl
