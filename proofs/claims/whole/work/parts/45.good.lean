theorem SPX.of {B : Nat → Nat → Nat} {u : Mem} {p : Nat} (h1 : OKB B) (h2 : BX B u 1) (hp : p < B 0 0) : SPX u (fun a => B 5 (4 * p + a)) p (B 4 p) := fun a ha => ⟨bk_s h2 hp ha, (h1.2.2.2 p hp).2.2.2.2 a ha⟩
theorem SPM.of {B : Nat → Nat → Nat} {v : Mem} {p : Nat} (h1 : OKB B) (h3 : BM B (v 1) 0) (hp : p < B 0 0) : SPM v (fun a => B 5 (4 * p + a)) p (B 4 p) := fun a ha => ⟨bm_s h3 hp ha, (h1.2.2.2 p hp).2.2.2.2 a ha⟩
theorem SPX.kp {u u2 : Mem} {sp : Nat → Nat} {p b : Nat} (h : SPX u sp p b) (hk : u2 6 = u 6) : SPX u2 sp p b := fun a ha => by rw [hk]; exact h a ha
theorem SPM.kp {v v2 : Mem} {sp : Nat → Nat} {p b : Nat} (h : SPM v sp p b) (hk : v2 1 = v 1) : SPM v2 sp p b := fun a ha => by rw [hk]; exact h a ha
def okr (S : Nat → Nat) (i : Nat) : Bool := decide (48 ≤ S (2 * i) ∧ S (2 * i) ≤ 50) && decide (48 ≤ S (2 * i + 1) ∧ S (2 * i + 1) ≤ 51)
def okk (S : Nat → Nat) (k : Nat) : Bool := decide (48 ≤ S k ∧ S k ≤ if k % 2 = 0 then 50 else 51)
theorem ok_eq (S : Nat → Nat) (b : Nat) : allB (okk S) 0 (2 * b) = allB (okr S) 0 b := by
  rw [Bool.eq_iff_iff, allB_iff, allB_iff]
  constructor
  · intro h j _ hj
    have h1 := h (2 * j) (by omega) (by omega)
    have h2 := h (2 * j + 1) (by omega) (by omega)
    simp only [okk, decide_eq_true_eq] at h1 h2
    rw [if_pos (by omega)] at h1
    rw [if_neg (by omega)] at h2
    simp only [okr, Bool.and_eq_true, decide_eq_true_eq]
    exact ⟨h1, h2⟩
  · intro h k _ hk
    have h1 := h (k / 2) (by omega) (by omega)
    simp only [okr, Bool.and_eq_true, decide_eq_true_eq] at h1
    simp only [okk, decide_eq_true_eq]
    by_cases q : k % 2 = 0
    · rw [if_pos q]
      have e : 2 * (k / 2) = k := by omega
      rw [e] at h1
      exact h1.1
    · rw [if_neg q]
      have e : 2 * (k / 2) + 1 = k := by omega
      rw [e] at h1
      exact h1.2
theorem x_pis {u : Mem} {S : Nat → Nat} {p b : Nat} (hp : p < 9) (hb : b ≤ 4) (h5 : u 5 p = nI b) (h8 : ∀ k, k < 2 * b → u 8 k = nI (S k) ∧ S k ≤ 126) : ∀ (m i g : Nat), i + m = b → m < g → e_X5_padIsSetting_L25 g u (nI p) (nI i) = some (bI (allB (okr S) i m), u) := by
  intro m
  have y1 : inb (nI p) 9 = true := by rw [n_inb (by omega)]; simp; omega
  induction m with
  | zero =>
    intro i g hi hg
    obtain ⟨g, rfl⟩ : ∃ k, g = k + 1 := ⟨g - 1, by omega⟩
    show e_X5_padIsSetting_L25_b _ _ _ _ = _
    unfold e_X5_padIsSetting_L25_b
    rw [if_pos y1, n_cl (by omega), h5, if_pos (by rw [n_le (by omega) (by omega)]; omega)]; rfl
  | succ m ih =>
    intro i g hi hg
    obtain ⟨g, rfl⟩ : ∃ k, g = k + 1 := ⟨g - 1, by omega⟩
    obtain ⟨a1, a2⟩ := h8 (2 * i) (by omega)
    obtain ⟨b1, b2⟩ := h8 (2 * i + 1) (by omega)
    have f1 := isFig (u := u) (j := 2 * i) (g := 2) (by omega) (by omega) a2 a1
    have f2 := isFig (u := u) (j := 2 * i + 1) (g := 3) (by omega) (by omega) b2 b1
    rw [show (nI 2 : Int32) = 2 from rfl] at f1
    rw [show (nI 3 : Int32) = 3 from rfl] at f2
    show e_X5_padIsSetting_L25_b _ _ _ _ = _
    unfold e_X5_padIsSetting_L25_b
    have em : (2 : Int32) * nI i = nI (2 * i) := n_mul 2 i
    rw [if_pos y1, n_cl (by omega), h5, if_neg (by rw [n_le (by omega) (by omega)]; omega), em, f1, bnd_some]
    show _ = some (bI (okr S i && allB (okr S) (i + 1) m), u)
    unfold okr
    by_cases q1 : 48 ≤ S (2 * i) ∧ S (2 * i) ≤ 50
    · rw [if_pos q1, if_neg z1, nI_1, f2, bnd_some, decide_eq_true q1]
      by_cases q2 : 48 ≤ S (2 * i + 1) ∧ S (2 * i + 1) ≤ 51
      · rw [if_pos q2, if_neg z1, nI_1, ih (i + 1) g (by omega) (by omega), decide_eq_true q2]; rfl
      · rw [if_neg q2, if_pos rfl, decide_eq_false q2]; rfl
    · rw [if_neg q1, if_pos rfl, decide_eq_false q1]; rfl
theorem m_ise {v : Mem} {S : Nat → Nat} {q : Nat} (hq : q ≤ 9) (h4 : v 0 4 = nI q) (h8 : ∀ k, k < q → v 4 k = nI (S k) ∧ S k ≤ 126) : ∀ (m k g : Nat) (x : Bool), k + m = q → m < g → e_X6_isSetting_L26 g v (bI x) (nI k) = some (bI (x && allB (okk S) k m), v) := by
  intro m
  induction m with
  | zero =>
    intro k g x hk hg
    obtain ⟨g, rfl⟩ : ∃ z, g = z + 1 := ⟨g - 1, by omega⟩
    show e_X6_isSetting_L26_b _ _ _ _ = _
    unfold e_X6_isSetting_L26_b
    rw [h4, if_pos (by rw [n_le (by omega) (by omega)]; omega), if_pos (vz_bI x)]
    simp [allB]
  | succ m ih =>
    intro k g x hk hg
    obtain ⟨g, rfl⟩ : ∃ z, g = z + 1 := ⟨g - 1, by omega⟩
    obtain ⟨a1, a2⟩ := h8 k (by omega)
    show e_X6_isSetting_L26_b _ _ _ _ = _
    unfold e_X6_isSetting_L26_b e_X6_isSetting_J59
    rw [h4, if_neg (by rw [n_le (by omega) (by omega)]; omega)]
    cases x
    · rw [if_pos (show bI false = 0 from rfl), if_pos (vz_bI false)]; rfl
    · rw [if_neg (by decide), if_pos (by rw [n_inb (by omega)]; simp; omega), n_cl (by omega), a1, m_mod2 (by omega), nI_1]
      show _ = some (bI (true && (okk S k && allB (okk S) (k + 1) m)), v)
      rw [Bool.true_and]
      have stp : ∀ z : Nat, (z = if k % 2 = 0 then 50 else 51) → (bnd (e_X6_in v (nI (S k)) 48 (nI z)) fun r1 u1 => e_X6_isSetting_L26 g u1 r1 (nI (k + 1))) = some (bI (okk S k && allB (okk S) (k + 1) m), v) := by
        intro z hz
        unfold okk
        rw [← hz]
        have hz9 : z ≤ 51 := by rw [hz]; split <;> omega
        by_cases q1 : 48 ≤ S k ∧ S k ≤ z
        · rw [in_yes (by rw [n_l48, n_lt (by omega) (by omega)]; omega) (by rw [n_lt (by omega) (by omega)]; omega), bnd_some, decide_eq_true q1]
          exact ih (k + 1) g true (by omega) (by omega)
        · rw [in_no (by rw [n_l48, n_lt (by omega) (by omega), n_lt (by omega) (by omega)]; omega), bnd_some, decide_eq_false q1]
          exact ih (k + 1) g false (by omega) (by omega)
      by_cases q2 : k % 2 = 0
      · rw [if_pos (by rw [q2]; rfl)]
        exact stp 50 (by rw [if_pos q2])
      · rw [if_neg (by rw [n_l0, n_eq (by omega) (by omega)]; exact q2)]
        exact stp 51 (by rw [if_neg q2])
theorem x_isg {u0 : Mem} {S sp c : Nat → Nat} {p b : Nat} (hp : p < 9) (hb : b ≤ 4) (h5 : u0 5 p = nI b) (h8 : ∀ k, k < 2 * b → u0 8 k = nI (48 + S k) ∧ S k ≤ 3) (hcS : ∀ j, j < b → c j = 4 * S (2 * j) + S (2 * j + 1) ∧ c j < 12) (hs : SPX u0 sp p b) : ∀ (m j g : Nat) (u : Mem), j + m = b → m < g → KX u0 u → CX4 u c j → ∃ u2, e_X5_isGood_L26 g u (nI p) (nI j) = some (bI (allB (fitB sp c) j m), u2) ∧ KX u0 u2 := by
  intro m
  have y1 : inb (nI p) 9 = true := by rw [n_inb (by omega)]; simp; omega
  induction m with
  | zero =>
    intro j g u hj hg kx cx
    obtain ⟨g, rfl⟩ : ∃ z, g = z + 1 := ⟨g - 1, by omega⟩
    refine ⟨u, ?_, kx⟩
    show e_X5_isGood_L26_b _ _ _ _ = _
    unfold e_X5_isGood_L26_b
    rw [if_pos y1, n_cl (by omega), kx 5 (by omega), h5, if_pos (by rw [n_le (by omega) (by omega)]; omega)]; rfl
  | succ m ih =>
    intro j g u hj hg kx cx
    obtain ⟨g, rfl⟩ : ∃ z, g = z + 1 := ⟨g - 1, by omega⟩
    obtain ⟨a1, a2⟩ := h8 (2 * j) (by omega)
    obtain ⟨b1, b2⟩ := h8 (2 * j + 1) (by omega)
    obtain ⟨c1, c2⟩ := hcS j (by omega)
    have fg : ∀ k, k < 2 * b → e_X2_figure u (nI k) = some (nI (S k), u) := by
      intro k hk
      unfold e_X2_figure
      rw [if_pos (by rw [n_inb (by omega)]; simp; omega), n_cl (by omega), kx 8 (by omega), (h8 k hk).1, n_l48, n_sub (by omega), Nat.add_sub_cancel_left]
    have em : (2 : Int32) * nI j = nI (2 * j) := n_mul 2 j
    have kx2 : KX u0 (put u 32 j (nI (c j))) := kx.pt _ _ (by omega)
    have cx2 : CX4 (put u 32 j (nI (c j))) c (j + 1) := fun a ha => by
      by_cases q : a = j
      · subst q; rw [put_same]; exact ⟨rfl, c2⟩
      · rw [put_slot _ _ (by omega)]; exact cx a (by omega)
    have ef := x_fits hp hb (show j < b by omega) cx2 (hs.kp (kx2 6 (by omega)))
    show ∃ u2, e_X5_isGood_L26_b _ _ _ _ = some (bI (fitB sp c j && allB (fitB sp c) (j + 1) m), u2) ∧ _
    unfold e_X5_isGood_L26_b
    rw [if_pos y1, n_cl (by omega), kx 5 (by omega), h5, if_neg (by rw [n_le (by omega) (by omega)]; omega), em, fg _ (by omega), bnd_some, nI_1, fg _ (by omega), bnd_some, if_pos (by rw [n_inb (by omega)]; simp; omega), n_cl (by omega), n_l4, n_mul, n_add, ← c1, ef, bnd_some]
    cases hfb : fitB sp c j
    · rw [if_pos (show bI false = 0 from rfl)]
      exact ⟨_, rfl, kx2⟩
    · rw [if_neg (by decide)]
      have hi := ih (j + 1) g _ (by omega) (by omega) kx2 cx2
      rw [← nI_1, n_l1] at hi
      exact hi
theorem m_isg {v0 : Mem} {S sp c : Nat → Nat} {p b : Nat} (hp : p < 9) (hb : b ≤ 4) (h27 : v0 1 (27 + p) = nI b) (h8 : ∀ k, k < 2 * b → v0 4 k = nI (48 + S k) ∧ S k ≤ 3) (hcS : ∀ j, j < b → c j / 4 = S (2 * j) ∧ c j % 4 = S (2 * j + 1) ∧ c j < 12) (hs : SPM v0 sp p b) : ∀ (m j g : Nat) (v : Mem), j + m = b → m < g → KM v0 v → CM v c j → ∃ v2, e_X6_isGood_L23 g v (nI p) (nI j) = some (bI (gdB sp c b), v2) ∧ KM v0 v2 := by
  intro m
  have y1 : inb ((27 : Int32) + nI p) 74 = true := by rw [n_l27, n_add, n_inb (by omega)]; simp; omega
  have e1 : ((27 : Int32) + nI p).toNatClampNeg = 27 + p := by rw [n_l27, n_add, n_cl (by omega)]
  induction m with
  | zero =>
    intro j g v hj hg km cm
    obtain ⟨g, rfl⟩ : ∃ z, g = z + 1 := ⟨g - 1, by omega⟩
    have e : j = b := by omega
    subst e
    have hm := m_good hp hb (by rw [km.1 1 (by omega) (by omega)]; exact h27) cm (hs.kp (km.1 1 (by omega) (by omega)))
    refine ⟨v, ?_, km⟩
    show e_X6_isGood_L23_b _ _ _ _ = _
    unfold e_X6_isGood_L23_b
    rw [if_pos y1, e1, km.1 1 (by omega) (by omega), h27, if_pos (by rw [n_le (by omega) (by omega)]; omega), hm, bnd_some]
    cases gdB sp c j
    · rw [if_pos (show bI false = 0 from rfl)]; rfl
    · rw [if_neg (by decide)]; rfl
  | succ m ih =>
    intro j g v hj hg km cm
    obtain ⟨g, rfl⟩ : ∃ z, g = z + 1 := ⟨g - 1, by omega⟩
    obtain ⟨a1, a2⟩ := h8 (2 * j) (by omega)
    obtain ⟨b1, b2⟩ := h8 (2 * j + 1) (by omega)
    obtain ⟨c1, c2, c3⟩ := hcS j (by omega)
    have em : (2 : Int32) * nI j = nI (2 * j) := n_mul 2 j
    have ea : nI (2 * j) + (1 : Int32) = nI (2 * j + 1) := nI_1 _
    obtain ⟨v2, g1, g2⟩ := ih (j + 1) g (put (put v 11 j (nI (S (2 * j)))) 12 j (nI (S (2 * j + 1)))) (by omega) (by omega) ((km.pt _ (by omega)).pt _ (by omega)) (fun a ha => by
      by_cases q : a = j
      · subst q
        rw [put_cell _ _ _ (by omega), put_same, put_same, c1, c2]; exact ⟨rfl, rfl, c3⟩
      · rw [put_cell _ _ _ (by omega), put_slot _ _ (by omega), put_slot _ _ (by omega), put_cell _ _ _ (by omega)]; exact cm a (by omega))
    refine ⟨v2, ?_, g2⟩
    show e_X6_isGood_L23_b _ _ _ _ = _
    unfold e_X6_isGood_L23_b
    have z0 : inb (nI (2 * j)) 9 = true := by rw [n_inb (by omega)]; simp; omega
    have z1' : inb (nI (2 * j + 1)) 9 = true := by rw [n_inb (by omega)]; simp; omega
    have zj : inb (nI j) 4 = true := by rw [n_inb (by omega)]; simp; omega
    rw [if_pos y1, e1, km.1 1 (by omega) (by omega), h27, if_neg (by rw [n_le (by omega) (by omega)]; omega)]
    simp only [em, ea, z0, z1', zj, if_true, n_cl (show 2 * j < 2147483648 by omega), n_cl (show 2 * j + 1 < 2147483648 by omega), n_cl (show j < 2147483648 by omega), km.1 4 (by omega) (by omega), a1, b1]
    rw [n_l48, n_sub (by omega), n_sub (by omega), Nat.add_sub_cancel_left, Nat.add_sub_cancel_left, nI_1]
    exact g1
theorem st_isGood : St1 RR e_X5_isGood e_X6_isGood := by
  intro u v hR a
  obtain ⟨B, P, I0, I1, h1, h2, h3, h4, h5, h6⟩ := id hR
  obtain ⟨g1, g2, g3, g4, g5, g6, g7, g8⟩ := id h4
  have h9 := h1.1
  have h30 : v 1 72 = nI (B 0 0) := h3.1
  unfold e_X5_isGood e_X6_isGood
  rcases hp_dec a (B 0 0) with ha | ha
  case inr => exact ⟨-1, u, v, by simp only [has_no h1 h2 ha, bnd_some, if_true], by simp only [isp_no h9 h30 ha, bnd_some, if_true], hR⟩
  obtain ⟨p, hp, rfl⟩ := hp_ex ha (by omega)
  obtain ⟨x1, x2, x3, x4⟩ := bk_w h2 hp
  obtain ⟨m1, m2, m3, m4⟩ := bm_w h3 hp
  have b4 := (h1.2.2.2 p hp).2.2.2.1
  rw [has_yes h1 h2 hp, isp_yes h9 h30 hp, bnd_some, bnd_some, if_neg z1, if_neg z1]
  have y1 : inb (nI p) 9 = true := by rw [n_inb (by omega)]; simp; omega
  have y2 : inb ((27 : Int32) + nI p) 74 = true := by rw [n_l27, n_add, n_inb (by omega)]; simp; omega
  have e2 : ((27 : Int32) + nI p).toNatClampNeg = 27 + p := by rw [n_l27, n_add, n_cl (by omega)]
  unfold e_X5_padIsSetting e_X6_isSetting e_X6_isSetting_J23
  have em : (2 : Int32) * nI (B 4 p) = nI (2 * B 4 p) := n_mul 2 _
  rw [if_pos y1, if_pos y2, n_cl (by omega), e2, x4, m4, g3, g4, em]
  by_cases q : P 0 0 = 2 * B 4 p
  case neg =>
    have ms := m_ise (v := v) (S := P 1) g1 g4 (fun k hk => ⟨(g2 k hk).2.2, (g2 k hk).1.2⟩) (P 0 0) 0 FU false (by omega) (by unfold FU; omega)
    rw [if_neg (by rw [n_eq (by omega) (by omega)]; exact q), if_neg (by rw [n_eq (by omega) (by omega)]; exact q), bnd_some, if_pos rfl]
    have ms : e_X6_isSetting_L26 FU v 0 0 = some (0, v) := ms
    rw [ms, bnd_some, if_pos rfl]
    exact ⟨-7, u, v, rfl, rfl, hR⟩
  rw [if_pos (by rw [q]), if_pos (by rw [q])]
  have xs := x_pis (u := u) (S := P 1) (show p < 9 by omega) b4 x4 (fun k hk => ⟨(g2 k (by omega)).2.1, (g2 k (by omega)).1.2⟩) (B 4 p) 0 FU (by omega) (by unfold FU; omega)
  have ms := m_ise (v := v) (S := P 1) g1 g4 (fun k hk => ⟨(g2 k hk).2.2, (g2 k hk).1.2⟩) (P 0 0) 0 FU true (by omega) (by unfold FU; omega)
  rw [q, Bool.true_and, ok_eq] at ms
  have xs : e_X5_padIsSetting_L25 FU u (nI p) 0 = some (bI (allB (okr (P 1)) 0 (B 4 p)), u) := xs
  have ms : e_X6_isSetting_L26 FU v 1 0 = some (bI (allB (okr (P 1)) 0 (B 4 p)), v) := ms
  rw [xs, ms, bnd_some, bnd_some]
  cases hok : allB (okr (P 1)) 0 (B 4 p)
  · rw [if_pos (show bI false = 0 from rfl), if_pos (show bI false = 0 from rfl)]
    exact ⟨-7, u, v, rfl, rfl, hR⟩
  rw [if_neg (by decide), if_neg (by decide)]
  rw [allB_iff] at hok
  have hs : ∀ j, j < B 4 p → (48 ≤ P 1 (2 * j) ∧ P 1 (2 * j) ≤ 50) ∧ (48 ≤ P 1 (2 * j + 1) ∧ P 1 (2 * j + 1) ≤ 51) := fun j hj => by
    have := hok j (by omega) (by omega)
    simp only [okr, Bool.and_eq_true, decide_eq_true_eq] at this
    exact this
  have hk : ∀ k, k < 2 * B 4 p → 48 ≤ P 1 k ∧ P 1 k ≤ 51 := fun k hk => by
    have := hs (k / 2) (by omega)
    rcases (by omega : 2 * (k / 2) = k ∨ 2 * (k / 2) + 1 = k) with e | e
    · rw [e] at this; omega
    · rw [e] at this; omega
  obtain ⟨u2, r1, r2⟩ := x_isg (u0 := u) (S := fun k => P 1 k - 48) (sp := fun a => B 5 (4 * p + a)) (c := fun j => 4 * (P 1 (2 * j) - 48) + (P 1 (2 * j + 1) - 48)) (show p < 9 by omega) b4 x4 (fun k hk' => by
    have := hk k hk'
    exact ⟨by rw [(g2 k (by omega)).2.1]; congr 1; omega, by omega⟩) (fun j hj => ⟨rfl, by have := hs j hj; omega⟩) (SPX.of h1 h2 hp) (B 4 p) 0 FU u (by omega) (by unfold FU; omega) KX.rf (fun a ha => by omega)
  obtain ⟨v2, r3, r4⟩ := m_isg (v0 := v) (S := fun k => P 1 k - 48) (sp := fun a => B 5 (4 * p + a)) (c := fun j => 4 * (P 1 (2 * j) - 48) + (P 1 (2 * j + 1) - 48)) (show p < 9 by omega) b4 m4 (fun k hk' => by
    have := hk k hk'
    exact ⟨by rw [(g2 k (by omega)).2.2]; congr 1; omega, by omega⟩) (fun j hj => by have := hs j hj; omega) (SPM.of h1 h3 hp) (B 4 p) 0 FU v (by omega) (by unfold FU; omega) KM.rf (fun a ha => by omega)
  exact ⟨_, u2, v2, r1, r3, hR.kp r2 r4⟩
