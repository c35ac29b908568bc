/-- both say whether the pad is a layout -/
theorem lays {B P : Nat → Nat → Nat} {u v : Mem} (h1 : OKB B) (h2 : BX B u 1) (h3 : BM B (v 1) 0) (h4 : PD P u v) : (P 0 0 = B 0 0 ∧ aF (P 1) (P 0 0) 2 ∧ e_X5_padIsLayout u = some (1, u) ∧ e_X6_isLayout v = some (1, v)) ∨ (e_X5_padIsLayout u = some (0, u) ∧ e_X6_isLayout v = some (0, v)) := by
  obtain ⟨g1, g2, g3, g4, g5, g6, g7, g8⟩ := id h4
  have h9 := h1.1
  have h30 : v 1 72 = nI (B 0 0) := h3.1
  unfold e_X5_padIsLayout e_X6_isLayout
  rw [many_m, bnd_some, h2.1, g3, g4, h30]
  by_cases q : P 0 0 = B 0 0
  · rw [if_pos (by rw [q]), if_pos (by rw [q])]
    rcases figs h4 (show 2 ≤ 9 by omega) with ⟨ha, f1, f2⟩ | ⟨ha, f1, f2⟩
    · rw [show (nI 2 : Int32) = 2 from rfl] at f1 f2
      rw [f1, f2, bnd_some, bnd_some, if_neg z1, if_neg z1]
      exact Or.inl ⟨q, ha, rfl, rfl⟩
    · rw [show (nI 2 : Int32) = 2 from rfl] at f1 f2
      rw [f1, f2, bnd_some, bnd_some, if_pos rfl, if_pos rfl]
      exact Or.inr ⟨rfl, rfl⟩
  · rw [if_neg (by rw [n_eq (by omega) (by omega)]; exact q), if_neg (by rw [n_eq (by omega) (by omega)]; exact q)]
    exact Or.inr ⟨rfl, rfl⟩
theorem m_goPad {v : Mem} {n H : Nat} {t kd f : Nat → Nat} (hb : BKM v n H t kd) (hf : ∀ j, j < n → f j ≤ 2 ∧ v 4 j = nI (48 + f j)) : ∃ r v1 v2, e_X6_goPad v = some (r, v2) ∧ KM v v1 ∧ (∀ j, j < n → v1 7 j = nI (f j)) ∧ GT v1 v2 n H t kd f r := by
  have h9 := hb.1
  have key : ∀ (m i g : Nat) (w : Mem), i + m = n → m < g → KM v w → (∀ j, j < i → w 7 j = nI (f j)) → ∃ r v1 v2, e_X6_goPad_L2 g w (nI i) = some (r, v2) ∧ KM v v1 ∧ (∀ j, j < n → v1 7 j = nI (f j)) ∧ GT v1 v2 n H t kd f r := by
    intro m
    induction m with
    | zero =>
      intro i g w hi hg km h7
      obtain ⟨g, rfl⟩ : ∃ k, g = k + 1 := ⟨g - 1, by omega⟩
      have e : i = n := by omega
      subst e
      have hbw : BKM w i H t kd := hb.kp (km.1 1 (by omega) (by omega))
      have h72 : w 1 72 = nI i := hbw.2.2.1
      obtain ⟨r, v2, e1, e2⟩ := m_goThrough hbw (f := f) (fun j hj => ⟨(hf j hj).1, h7 j hj⟩)
      refine ⟨r, w, v2, ?_, km, h7, e2⟩
      show e_X6_goPad_L2_b _ _ _ = _
      unfold e_X6_goPad_L2_b
      rw [many_m, bnd_some, h72, if_pos (by rw [n_le (by omega) (by omega)]; omega), e1, bnd_some]
    | succ m ih =>
      intro i g w hi hg km h7
      obtain ⟨g, rfl⟩ : ∃ k, g = k + 1 := ⟨g - 1, by omega⟩
      have hbw : BKM w n H t kd := hb.kp (km.1 1 (by omega) (by omega))
      have h72 : w 1 72 = nI n := hbw.2.2.1
      obtain ⟨f2, f4⟩ := hf i (by omega)
      have y1 : inb (nI i) 9 = true := by rw [n_inb (by omega)]; simp; omega
      have w4 : w 4 i = nI (48 + f i) := by rw [km.1 4 (by omega) (by omega)]; exact f4
      obtain ⟨r, v1, v2, e1, e2⟩ := ih (i + 1) g (put w 7 i (nI (f i))) (by omega) (by omega) (km.pt _ (by omega)) (fun j hj => by
        by_cases hji : j = i
        · subst hji; rw [put_same]
        · rw [put_slot _ _ (by omega)]; exact h7 j (by omega))
      refine ⟨r, v1, v2, ?_, e2⟩
      show e_X6_goPad_L2_b _ _ _ = _
      unfold e_X6_goPad_L2_b
      rw [many_m, bnd_some, h72, if_neg (by rw [n_le (by omega) (by omega)]; omega), if_pos y1, if_pos y1, n_cl (by omega), w4, n_l48, n_sub (by omega), Nat.add_sub_cancel_left, n_l1, n_add]
      exact e1
  exact key n 0 FU v (by omega) (by unfold FU; omega) KM.rf (fun j hj => by omega)
theorem bg_zero {f : Nat → Nat} : ∀ {i j : Nat}, bg f i < j → j ≤ i → f j = 0
  | 0, j, h1, h2 => by omega
  | i + 1, j, h1, h2 => by
    by_cases q : f (i + 1) = 0
    · rw [bg_0 q] at h1
      by_cases e : j = i + 1
      · subst e; exact q
      · exact bg_zero h1 (by omega)
    · rw [bg_n q] at h1; omega
theorem bg_run {f : Nat → Nat} {i : Nat} : ∀ {k : Nat}, (∀ j, i < j → j ≤ i + k → f j = 0) → bg f (i + k) = bg f i
  | 0, _ => rfl
  | k + 1, h => by
    have e := bg_run (k := k) (fun j h1 h2 => h j h1 (by omega))
    rw [← Nat.add_assoc, bg_0 (h (i + k + 1) (by omega) (by omega)), e]
/-- where the tier of i ends -/
theorem te_ex (f : Nat → Nat) {i n : Nat} (hi : i < n) : ∃ e, i < e ∧ e ≤ n ∧ (∀ j, i < j → j < e → f j = 0) ∧ (e = n ∨ f e ≠ 0) := by
  have key : ∀ m k, k + m = n → i < k → (∀ j, i < j → j < k → f j = 0) → ∃ e, i < e ∧ e ≤ n ∧ (∀ j, i < j → j < e → f j = 0) ∧ (e = n ∨ f e ≠ 0) := by
    intro m
    induction m with
    | zero => intro k hk h1 h2; exact ⟨k, h1, by omega, h2, Or.inl (by omega)⟩
    | succ m ih =>
      intro k hk h1 h2
      by_cases q : f k = 0
      · exact ih (k + 1) (by omega) (by omega) (fun j h3 h4 => by
          by_cases e : j = k
          · subst e; exact q
          · exact h2 j h3 (by omega))
      · exact ⟨k, h1, by omega, h2, Or.inr q⟩
  exact key (n - (i + 1)) (i + 1) (by omega) (by omega) (fun j h1 h2 => by omega)
theorem te_len {H i n e : Nat} {t kd f : Nat → Nat} (hf : ∀ j, j < n → f j ≤ 2) (hgo : GO H t kd f n) (h1 : i < e) (h2 : e ≤ n) (h3 : ∀ j, i < j → j < e → f j = 0) : e - bg f i ≤ 4 ∧ 1 ≤ e - bg f i ∧ pl f i < e - bg f i := by
  have hb := bg_le f i
  have vp := VP.of (hf (e - 1) (by omega)) (hgo (e - 1) (by omega))
  have hr := bg_run (f := f) (i := i) (k := e - 1 - i) (fun j a b => h3 j a (by omega))
  rw [show i + (e - 1 - i) = e - 1 by omega] at hr
  have := vp.1
  unfold pl at this ⊢
  rw [hr] at this
  omega
theorem x_width {B : Nat → Nat → Nat} {u : Mem} {i e : Nat} {f : Nat → Nat} (h1 : OKB B) (h2 : BX B u 1) (hi : i < B 0 0) (hf : ∀ j, j < B 0 0 → f j ≤ 2) (hgo : GO (B 0 1) (B 2) (B 3) f (B 0 0)) (xs : XS u (B 2) f (B 0 0)) (e1 : i < e) (e2 : e ≤ B 0 0) (e3 : ∀ j, i < j → j < e → f j = 0) (e4 : e = B 0 0 ∨ f e ≠ 0) : e_X1_width u (nI i) = some (if B 3 i = 2 then nI 24 else nI (wdf (fun k => B 1 (bg f i + k)) (e - bg f i) (pl f i)), u) := by
  have h9 := h1.1
  have hbk := BK.of h1 h2
  have hb := bg_le f i
  obtain ⟨l1, l2, l3⟩ := te_len hf hgo e1 e2 e3
  have y1 : inb (nI i) 9 = true := by rw [n_inb (by omega)]; simp; omega
  have a13 : u 13 i = nI (pl f i) := (xs i hi).1.2.1
  have hpl : i - pl f i = bg f i := by unfold pl; omega
  have hpl2 : pl f i ≤ i := by unfold pl; omega
  unfold e_X1_width
  rw [x_spr hbk hi, bnd_some]
  by_cases k2 : B 3 i = 2
  · rw [if_pos k2, if_neg z1, if_pos k2]; rfl
  rw [if_neg k2, if_pos rfl, if_neg k2]
  have ex := xw (u := u) (w := fun k => B 1 (bg f i + k)) (a := bg f i) (n := e - bg f i) (j := pl f i) (by omega) l3 (fun k hk => ⟨(bk_w h2 (show bg f i + k < B 0 0 by omega)).1, (h1.2.2.2 (bg f i + k) (by omega)).1⟩)
  have j38 : e_X1_width_J38 u (nI i) (nI e) = some (nI (wdf (fun k => B 1 (bg f i + k)) (e - bg f i) (pl f i)), u) := by
    unfold e_X1_width_J38
    rw [if_pos y1, if_pos y1, n_cl (by omega), a13, n_sub hpl2, hpl, n_sub (by omega), ex, bnd_some]
  have key : ∀ (m k g : Nat), k + m = e → i < k → m < g → e_X1_width_L15 g u (nI i) (nI k) = some (nI (wdf (fun k => B 1 (bg f i + k)) (e - bg f i) (pl f i)), u) := by
    intro m
    induction m with
    | zero =>
      intro k g hk hik hg
      obtain ⟨g, rfl⟩ : ∃ q, g = q + 1 := ⟨g - 1, by omega⟩
      have ek : k = e := by omega
      subst ek
      show e_X1_width_L15_b _ _ _ _ = _
      unfold e_X1_width_L15_b
      rw [h2.1]
      by_cases q : k = B 0 0
      · rw [if_pos (by rw [n_le (by omega) (by omega)]; omega)]; exact j38
      · rw [if_neg (by rw [n_le (by omega) (by omega)]; omega), if_pos (by rw [n_inb (by omega)]; simp; omega), n_cl (by omega), (xs k (by omega)).2, if_neg (by rw [n_l0, n_eq (by have := hf k (by omega); omega) (by omega)]; exact e4.resolve_left q)]; exact j38
    | succ m ih =>
      intro k g hk hik hg
      obtain ⟨g, rfl⟩ : ∃ q, g = q + 1 := ⟨g - 1, by omega⟩
      show e_X1_width_L15_b _ _ _ _ = _
      unfold e_X1_width_L15_b
      rw [h2.1, if_neg (by rw [n_le (by omega) (by omega)]; omega), if_pos (by rw [n_inb (by omega)]; simp; omega), n_cl (by omega), (xs k (by omega)).2, e3 k hik (by omega), if_pos n_l0.symm, n_l1, n_add]
      exact ih (k + 1) g (by omega) (by omega) (by omega)
  rw [n_l1, n_add]
  exact key (e - (i + 1)) (i + 1) FU (by omega) (by omega) (by unfold FU; omega)
theorem m_width {B : Nat → Nat → Nat} {v : Mem} {i e : Nat} {f : Nat → Nat} (h1 : OKB B) (h3 : BM B (v 1) 0) (hi : i < B 0 0) (hf : ∀ j, j < B 0 0 → f j ≤ 2) (hgo : GO (B 0 1) (B 2) (B 3) f (B 0 0)) (h7 : ∀ j, j < B 0 0 → v 7 j = nI (f j)) (h10 : v 10 i = nI (pl f i)) (e1 : i < e) (e2 : e ≤ B 0 0) (e3 : ∀ j, i < j → j < e → f j = 0) (e4 : e = B 0 0 ∨ f e ≠ 0) : ∃ v2, e_X6_widthOf v (nI i) = some (if B 3 i = 2 then nI 24 else nI (wdf (fun k => B 1 (bg f i + k)) (e - bg f i) (pl f i)), v2) ∧ ∀ c, c ≠ 5 → c ≠ 6 → v2 c = v c := by
  have h9 := h1.1
  have h30 : v 1 72 = nI (B 0 0) := h3.1
  have hbk := BKM.of h1 h3
  have hb := bg_le f i
  obtain ⟨l1, l2, l3⟩ := te_len hf hgo e1 e2 e3
  have y1 : inb (nI i) 9 = true := by rw [n_inb (by omega)]; simp; omega
  have hpl : i - pl f i = bg f i := by unfold pl; omega
  have hpl2 : pl f i ≤ i := by unfold pl; omega
  unfold e_X6_widthOf
  rw [n_l2, m_kind hbk hi (by omega), bnd_some]
  by_cases k2 : B 3 i = 2
  · rw [if_pos k2, if_neg z1, if_pos k2]; exact ⟨v, rfl, fun _ _ _ => rfl⟩
  rw [if_neg k2, if_pos rfl, if_neg k2, if_pos y1, n_cl (by omega), h10, n_sub hpl2, hpl]
  obtain ⟨v2, m1, m2, m3⟩ := mw (v := v) (w := fun k => B 1 (bg f i + k)) (a := bg f i) (n := e - bg f i) (by omega) l2 l1 (fun k hk => ⟨(bm_w h3 (show bg f i + k < B 0 0 by omega)).1, (h1.2.2.2 (bg f i + k) (by omega)).1⟩)
  refine ⟨v2, ?_, m3⟩
  have j50 : e_X6_widthOf_J50 v (nI i) (nI (bg f i)) (nI (e - bg f i)) = some (nI (wdf (fun k => B 1 (bg f i + k)) (e - bg f i) (pl f i)), v2) := by
    unfold e_X6_widthOf_J50
    rw [m1, bnv_some, if_pos y1, n_cl (by omega), m3 10 (by omega) (by omega), h10, if_pos (by rw [n_inb (by omega)]; simp; omega), n_cl (by omega), m2 _ l3]
  have key : ∀ (m k g : Nat), bg f i + k + m = e → 1 ≤ k → m < g → e_X6_widthOf_L23 g v (nI i) (nI (bg f i)) (nI k) = some (nI (wdf (fun k => B 1 (bg f i + k)) (e - bg f i) (pl f i)), v2) := by
    intro m
    induction m with
    | zero =>
      intro k g hk hik hg
      obtain ⟨g, rfl⟩ : ∃ q, g = q + 1 := ⟨g - 1, by omega⟩
      have ek : k = e - bg f i := by omega
      show e_X6_widthOf_L23_b _ _ _ _ _ = _
      unfold e_X6_widthOf_L23_b
      rw [many_m, bnd_some, h30, n_add]
      by_cases q : e = B 0 0
      · rw [if_pos (by rw [n_le (by omega) (by omega)]; omega), ek]; exact j50
      · rw [if_neg (by rw [n_le (by omega) (by omega)]; omega), if_pos (by rw [n_inb (by omega)]; simp; omega), n_cl (by omega), h7 _ (by omega), show bg f i + k = e by omega, if_neg (by rw [n_l0, n_eq (by have := hf e (by omega); omega) (by omega)]; exact e4.resolve_left q), ek]; exact j50
    | succ m ih =>
      intro k g hk hik hg
      obtain ⟨g, rfl⟩ : ∃ q, g = q + 1 := ⟨g - 1, by omega⟩
      have fz : f (bg f i + k) = 0 := by
        by_cases q : bg f i + k ≤ i
        · exact bg_zero (i := i) (by omega) q
        · exact e3 _ (by omega) (by omega)
      show e_X6_widthOf_L23_b _ _ _ _ _ = _
      unfold e_X6_widthOf_L23_b
      rw [many_m, bnd_some, h30, n_add, if_neg (by rw [n_le (by omega) (by omega)]; omega), if_pos (by rw [n_inb (by omega)]; simp; omega), n_cl (by omega), h7 _ (by omega), fz, if_pos n_l0.symm, n_l1, n_add]
      exact ih (k + 1) g (by omega) (by omega) (by omega)
  exact key (e - (bg f i + 1)) 1 FU (by omega) (by omega) (by unfold FU; omega)
theorem wy_small (H : Nat) (t kd f : Nat → Nat) (i : Nat) (h : wy H t kd f i ≠ 0) : ¬ (nI (wy H t kd f i) = (0 : Int32)) := by
  have := wy_le H t kd f i
  rw [n_l0, n_eq (by omega) (by omega)]; exact h
theorem first_one {H n : Nat} {t kd f : Nat → Nat} {a b : Nat} (ha : wy H t kd f a ≠ 0) (ha2 : ∀ j, j < a → wy H t kd f j = 0) (hb : wy H t kd f b ≠ 0) (hb2 : ∀ j, j < b → wy H t kd f j = 0) : a = b := by
  rcases Nat.lt_trichotomy a b with h | h | h
  · exact absurd (hb2 a h) ha
  · exact h
  · exact absurd (ha2 b h) hb
theorem st_judge : St1 RR e_X5_judge e_X6_judge := by
  intro u v hR a
  obtain ⟨B, P, I0, I1, h1, h2, h3, h4, h5, h6⟩ := id hR
  obtain ⟨g1, g2, g3, g4, g5, g6, g7, g8⟩ := id h4
  have h9 := h1.1
  unfold e_X5_judge e_X6_judge
  by_cases hq : 0 ≤ a.toInt ∧ a.toInt ≤ 1
  case neg =>
    refine ⟨-2, u, v, ?_, ?_, hR⟩
    · split
      · rfl
      · rename_i q
        rw [if_neg]
        rw [i_lt] at q
        rw [i_le]
        change ¬ a.toInt < 0 at q
        change ¬ a.toInt ≤ 1
        omega
    · rw [in_no (by rw [i_lt, i_lt]; change a.toInt < 0 ∨ 1 < a.toInt; omega), bnd_some, if_pos rfl]
  rw [in_yes (by rw [i_lt]; change ¬ a.toInt < 0; omega) (by rw [i_lt]; change ¬ 1 < a.toInt; omega), bnd_some, if_neg z1]
  rw [if_neg (by rw [i_lt]; change ¬ a.toInt < 0; omega), if_pos (by rw [i_le]; change a.toInt ≤ 1; omega)]
  rcases lays h1 h2 h3 h4 with ⟨q, ha, l1, l2⟩ | ⟨l1, l2⟩
  case inr =>
    rw [l1, l2, bnd_some, bnd_some, if_pos rfl, if_pos rfl]
    exact ⟨-7, u, v, rfl, rfl, hR⟩
  rw [l1, l2, bnd_some, bnd_some, if_neg z1, if_neg z1]
  have hfx : ∀ j, j < B 0 0 → P 1 j - 48 ≤ 2 ∧ u 8 j = nI (48 + (P 1 j - 48)) := fun j hj => by
    have := ha j (by omega)
    exact ⟨by omega, by rw [(g2 j (by omega)).2.1]; congr 1; omega⟩
  have hfm : ∀ j, j < B 0 0 → P 1 j - 48 ≤ 2 ∧ v 4 j = nI (48 + (P 1 j - 48)) := fun j hj => by
    have := ha j (by omega)
    exact ⟨by omega, by rw [(g2 j (by omega)).2.2]; congr 1; omega⟩
  obtain ⟨r, u2, x1, x2, x3⟩ := x_pour (BK.of h1 h2) (f := fun j => P 1 j - 48) hfx
  obtain ⟨r', v1, v2, m1, m2, m3, m4, m5⟩ := m_goPad (BKM.of h1 h3) (f := fun j => P 1 j - 48) hfm
  have hR2 : RR u2 v2 := hR.kp x2 (m2.tr m4.km)
  rw [x1, m1, bnd_some, bnd_some]
  rcases x3 with ⟨go, rfl, xs⟩ | ⟨p, p1, p2, p3, rfl, p5⟩
  · rcases m5 with ⟨go2, rfl, m11, _⟩ | ⟨p', q1, q2, q3, q4, q5⟩
    · rw [if_pos rfl, m11]
      refine ⟨-6, u2, v2, rfl, ?_, hR2⟩
      split <;> rfl
    · exact absurd (go p' q1) q2
  · rcases m5 with ⟨go2, rfl, m11, _⟩ | ⟨p', q1, q2, q3, rfl, q5⟩
    · exact absurd (go2 p p1) p2
    · have e : p = p' := first_one (n := 0) p2 p3 q2 q3
      subst e
      rw [if_neg (wy_small _ _ _ _ _ p2), p5, q5]
      by_cases a0 : a = 0
      · rw [if_pos a0, if_pos a0]; exact ⟨_, _, _, rfl, rfl, hR2⟩
      · rw [if_neg a0, if_neg a0]; exact ⟨_, _, _, rfl, rfl, hR2⟩
theorem m6_neg : ((-6 : Int32) < 0) := by decide
theorem nI_nneg {n : Nat} (h : n < 1000) : ¬ (nI n < 0) := by rw [n_l0, n_lt (by omega) (by omega)]; omega
theorem st_told : St1 RR e_X5_told e_X6_told := by
  intro u v hR a
  obtain ⟨B, P, I0, I1, h1, h2, h3, h4, h5, h6⟩ := id hR
  obtain ⟨g1, g2, g3, g4, g5, g6, g7, g8⟩ := id h4
  have h9 := h1.1
  unfold e_X5_told e_X6_told
  by_cases hq : 0 ≤ a.toInt ∧ a.toInt ≤ 3
  case neg =>
    refine ⟨-2, u, v, ?_, ?_, hR⟩
    · split
      · rfl
      · rename_i q
        rw [if_neg]
        rw [i_lt] at q
        rw [i_le]
        change ¬ a.toInt < 0 at q
        change ¬ a.toInt ≤ 3
        omega
    · rw [in_no (by rw [i_lt, i_lt]; change a.toInt < 0 ∨ 3 < a.toInt; omega), bnd_some, if_pos rfl]
  rw [in_yes (by rw [i_lt]; change ¬ a.toInt < 0; omega) (by rw [i_lt]; change ¬ 3 < a.toInt; omega), bnd_some, if_neg z1]
  rw [if_neg (by rw [i_lt]; change ¬ a.toInt < 0; omega), if_pos (by rw [i_le]; change a.toInt ≤ 3; omega)]
  rcases lays h1 h2 h3 h4 with ⟨q, ha, l1, l2⟩ | ⟨l1, l2⟩
  case inr =>
    rw [l1, l2, bnd_some, bnd_some, if_pos rfl, if_pos rfl]
    exact ⟨-7, u, v, rfl, rfl, hR⟩
  rw [l1, l2, bnd_some, bnd_some, if_neg z1, if_neg z1]
  have hfx : ∀ j, j < B 0 0 → P 1 j - 48 ≤ 2 ∧ u 8 j = nI (48 + (P 1 j - 48)) := fun j hj => by
    have := ha j (by omega)
    exact ⟨by omega, by rw [(g2 j (by omega)).2.1]; congr 1; omega⟩
  have hfm : ∀ j, j < B 0 0 → P 1 j - 48 ≤ 2 ∧ v 4 j = nI (48 + (P 1 j - 48)) := fun j hj => by
    have := ha j (by omega)
    exact ⟨by omega, by rw [(g2 j (by omega)).2.2]; congr 1; omega⟩
  obtain ⟨r, u2, x1, x2, x3⟩ := x_pour (BK.of h1 h2) (f := fun j => P 1 j - 48) hfx
  obtain ⟨r', v1, v2, m1, m2, m3, m4, m5⟩ := m_goPad (BKM.of h1 h3) (f := fun j => P 1 j - 48) hfm
  rw [x1, m1, bnd_some, bnd_some]
  rcases x3 with ⟨go, rfl, xs⟩ | ⟨p, p1, p2, p3, rfl, p5⟩
  · rcases m5 with ⟨go2, rfl, m11, m12, m13, m14, m15, _⟩ | ⟨p', q1, q2, q3, q4, q5⟩
    · obtain ⟨u3, y1, y2, y3, y4, y5, y6, _⟩ := x_num ((BK.of h1 h2).kp (fun k hk => x2 k (by omega))) (fun j hj => (hfx j hj).1) go xs
      have hR2 : RR u3 v2 := hR.kp (x2.tr (fun k hk => y2 k (by omega) (by omega))) (m2.tr m4.km)
      rw [if_pos rfl, if_pos m6_neg, y1, bnv_some, y3, y4, y5, y6, m12, m13, m14, m15]
      by_cases a0 : a = 0
      · rw [if_pos a0, if_pos a0]; exact ⟨_, _, _, rfl, rfl, hR2⟩
      rw [if_neg a0, if_neg a0]
      by_cases a1 : a = 1
      · rw [if_pos a1, if_pos a1]; exact ⟨_, _, _, rfl, rfl, hR2⟩
      rw [if_neg a1, if_neg a1]
      by_cases a2 : a = 2
      · rw [if_pos a2, if_pos a2]; exact ⟨_, _, _, rfl, rfl, hR2⟩
      rw [if_neg a2, if_neg a2]
      exact ⟨_, _, _, rfl, rfl, hR2⟩
    · exact absurd (go p' q1) q2
  · rcases m5 with ⟨go2, rfl, m11, _⟩ | ⟨p', q1, q2, q3, rfl, q5⟩
    · exact absurd (go2 p p1) p2
    · rw [if_neg (wy_small _ _ _ _ _ p2), if_neg (nI_nneg (by omega))]
      exact ⟨-5, u2, v2, rfl, rfl, hR.kp x2 (m2.tr m4.km)⟩
theorem st_at : St2 RR e_X5_at e_X6_at := by
  intro u v hR c a
  obtain ⟨B, P, I0, I1, h1, h2, h3, h4, h5, h6⟩ := id hR
  obtain ⟨g1, g2, g3, g4, g5, g6, g7, g8⟩ := id h4
  have h9 := h1.1
  have h30 : v 1 72 = nI (B 0 0) := h3.1
  unfold e_X5_at e_X6_at
  rcases hp_dec c (B 0 0) with hc | hc
  case inr => exact ⟨-1, u, v, by simp only [has_no h1 h2 hc, bnd_some, if_true], by simp only [isp_no h9 h30 hc, bnd_some, if_true], hR⟩
  obtain ⟨i, hi, rfl⟩ := hp_ex hc (by omega)
  rw [has_yes h1 h2 hi, isp_yes h9 h30 hi, bnd_some, bnd_some, if_neg z1, if_neg z1]
  by_cases hq : 0 ≤ a.toInt ∧ a.toInt ≤ 3
  case neg =>
    refine ⟨-2, u, v, ?_, ?_, hR⟩
    · split
      · rfl
      · rename_i q
        rw [if_neg]
        rw [i_lt] at q
        rw [i_le]
        change ¬ a.toInt < 0 at q
        change ¬ a.toInt ≤ 3
        omega
    · rw [in_no (by rw [i_lt, i_lt]; change a.toInt < 0 ∨ 3 < a.toInt; omega), bnd_some, if_pos rfl]
  rw [in_yes (by rw [i_lt]; change ¬ a.toInt < 0; omega) (by rw [i_lt]; change ¬ 3 < a.toInt; omega), bnd_some, if_neg z1]
  rw [if_neg (by rw [i_lt]; change ¬ a.toInt < 0; omega), if_pos (by rw [i_le]; change a.toInt ≤ 3; omega)]
  rcases lays h1 h2 h3 h4 with ⟨q, ha, l1, l2⟩ | ⟨l1, l2⟩
  case inr =>
    rw [l1, l2, bnd_some, bnd_some, if_pos rfl, if_pos rfl]
    exact ⟨-7, u, v, rfl, rfl, hR⟩
  rw [l1, l2, bnd_some, bnd_some, if_neg z1, if_neg z1]
  have hfx : ∀ j, j < B 0 0 → P 1 j - 48 ≤ 2 ∧ u 8 j = nI (48 + (P 1 j - 48)) := fun j hj => by
    have := ha j (by omega)
    exact ⟨by omega, by rw [(g2 j (by omega)).2.1]; congr 1; omega⟩
  have hfm : ∀ j, j < B 0 0 → P 1 j - 48 ≤ 2 ∧ v 4 j = nI (48 + (P 1 j - 48)) := fun j hj => by
    have := ha j (by omega)
    exact ⟨by omega, by rw [(g2 j (by omega)).2.2]; congr 1; omega⟩
  obtain ⟨r, u2, x1, x2, x3⟩ := x_pour (BK.of h1 h2) (f := fun j => P 1 j - 48) hfx
  obtain ⟨r', v1, v2, m1, m2, m3, m4, m5⟩ := m_goPad (BKM.of h1 h3) (f := fun j => P 1 j - 48) hfm
  rw [x1, m1, bnd_some, bnd_some]
  rcases x3 with ⟨go, rfl, xs⟩ | ⟨p, p1, p2, p3, rfl, p5⟩
  · rcases m5 with ⟨go2, rfl, m11, m12, m13, m14, m15, mj⟩ | ⟨p', q1, q2, q3, q4, q5⟩
    · obtain ⟨u3, y1, y2, y3, y4, y5, y6, yj⟩ := x_num ((BK.of h1 h2).kp (fun k hk => x2 k (by omega))) (fun j hj => (hfx j hj).1) go xs
      have kx : KX u u3 := x2.tr (fun k hk => y2 k (by omega) (by omega))
      have km : KM v v2 := m2.tr m4.km
      have hR2 : RR u3 v2 := hR.kp kx km
      have yi : inb (nI i) 9 = true := by rw [n_inb (by omega)]; simp; omega
      obtain ⟨j8, j9, j10⟩ := mj i hi
      have xs3 : XS u3 (B 2) (fun j => P 1 j - 48) (B 0 0) := fun j hj => ⟨(xs j hj).1.kp (fun k h1 h2 => by rw [y2 k (by omega) (by omega)]), by rw [y2 10 (by omega) (by omega)]; exact (xs j hj).2⟩
      have x12 : u3 12 i = nI (tp (fun j => P 1 j - 48) i) := (xs3 i hi).1.1
      have x13 : u3 13 i = nI (pl (fun j => P 1 j - 48) i) := (xs3 i hi).1.2.1
      rw [if_pos rfl, if_pos m6_neg, y1, bnv_some]
      simp only [yi, if_true, n_cl (show i < 2147483648 by omega), yj i hi, j8, j9, j10, x12, x13]
      by_cases a0 : a = 0
      · rw [if_pos a0, if_pos a0]; exact ⟨_, _, _, rfl, rfl, hR2⟩
      rw [if_neg a0, if_neg a0]
      by_cases a1 : a = 1
      · rw [if_pos a1, if_pos a1]; exact ⟨_, _, _, rfl, rfl, hR2⟩
      rw [if_neg a1, if_neg a1]
      by_cases a2 : a = 2
      · rw [if_pos a2, if_pos a2]; exact ⟨_, _, _, rfl, rfl, hR2⟩
      rw [if_neg a2, if_neg a2]
      obtain ⟨e, e1, e2, e3, e4⟩ := te_ex (fun j => P 1 j - 48) hi
      have wx := x_width h1 (h2.kp (fun k _ _ => kx k (by omega))) hi (fun j hj => (hfx j hj).1) go xs3 e1 e2 e3 e4
      obtain ⟨v3, w1, w2⟩ := m_width h1 (v := v2) (by rw [km.1 1 (by omega) (by omega)]; exact h3) hi (fun j hj => (hfx j hj).1) go (fun j hj => by rw [m4.1 7 (by omega) (by omega)]; exact m3 j hj) j10 e1 e2 e3 e4
      rw [wx, w1, bnd_some, bnd_some]
      exact ⟨_, _, _, rfl, rfl, hR2.kp KX.rf ⟨fun k a b => w2 k (by omega) (by omega), by rw [w2 0 (by omega) (by omega)]⟩⟩
    · exact absurd (go p' q1) q2
  · rcases m5 with ⟨go2, rfl, m11, _⟩ | ⟨p', q1, q2, q3, rfl, q5⟩
    · exact absurd (go2 p p1) p2
    · rw [if_neg (wy_small _ _ _ _ _ p2), if_neg (nI_nneg (by omega))]
      exact ⟨-5, u2, v2, rfl, rfl, hR.kp x2 (m2.tr m4.km)⟩
