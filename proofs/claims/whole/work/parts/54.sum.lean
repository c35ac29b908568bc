theorem x_runS {u : Mem} {n H : Nat} {t kd : Nat → Nat} (hb : BK u n H t kd) : ∀ (k g : Nat) (w : Mem), k ≤ n → k < g → (∀ c, c ≤ 17 ∨ 31 ≤ c → w c = u c) → (∀ i l, k ≤ i → i ≤ n → l < 2 → SL w (2 * i + l) (DD H t kd (n - i) i l)) → ∃ u2, e_X3_run_L51 g w (nI k - 1) = some u2 ∧ (∀ c, c ≤ 17 ∨ 31 ≤ c → u2 c = u c) ∧ ∀ i l, i ≤ n → l < 2 → SL u2 (2 * i + l) (DD H t kd (n - i) i l) := by
  intro k
  have h9 := hb.1
  have hH := hb.2.1
  have ht6 : ∀ j, j < n → t j ≤ 6 := fun j hj => (hb.2.2.2.2 j hj).2.2.1.2
  induction k with
  | zero =>
    intro g w hk hg kw ds
    obtain ⟨g, rfl⟩ : ∃ z, g = z + 1 := ⟨g - 1, by omega⟩
    refine ⟨w, ?_, kw, fun i l h1 h2 => ds i l (Nat.zero_le _) h1 h2⟩
    show e_X3_run_L51_b _ _ _ = _
    unfold e_X3_run_L51_b
    rw [if_pos (by decide)]
  | succ k ih =>
    intro g w hk hg kw ds
    obtain ⟨g, rfl⟩ : ∃ z, g = z + 1 := ⟨g - 1, by omega⟩
    have hbw : BK w n H t kd := hb.kp (fun c hc => kw c (by omega))
    obtain ⟨w1, c1, c2, c3, c4'⟩ := x_clear (u := w) (s := 2 * k) (by omega)
    have hb1 : BK w1 n H t kd := hbw.kp (fun c hc => funext fun j => c4' c j (by omega))
    obtain ⟨w2, p1, p2, p3, p4⟩ := x_put2 (f := fun _ => 2) hb1 (show k < n by omega) rfl
    have hb2 : BK w2 n H t kd := hb1.kp (fun c hc => p4 c (by omega))
    have tk6 := ht6 k (by omega)
    have vp := VP.of (H := H) (t := t) (kd := kd) (f := fun _ => 2) (i := k) (Nat.le_refl 2) (wy_2 rfl (by omega))
    have hp4 : 2 * 4 ^ (n - 1 - k) + 4 ^ (n - 1 - k) ≤ 262144 := by
      have : 4 ^ (n - 1 - k) ≤ 4 ^ 8 := Nat.pow_le_pow_right (by omega) (by omega)
      have e : 4 ^ 8 = 65536 := rfl
      omega
    have hp3 : 3 ^ (n - 1 - k + 1) ≤ 19683 := p3_le (by omega)
    obtain ⟨w3, g1, g2, g3⟩ := x_grow (be := k) (n - 1 - k) k RD w2 (fun _ => 2) 2 (fun _ => Zs) (by omega) (Nat.le_refl k) (by unfold RD; omega) hb2 p2 vp.2.2 (fun l hl => by
      rcases (by omega : l = 0 ∨ l = 1) with e | e <;> subst e
      · exact c2.kp (fun c h1 h2 => by rw [p4 c (by omega)])
      · exact c3.kp (fun c h1 h2 => by rw [p4 c (by omega)])) (fun i l h1 h2 h3 => (ds i l (by omega) h2 h3).kp (fun c h4 h5 => by rw [p4 c (by omega)]; exact c4' c _ (by omega))) (fun l hl => ⟨by show 0 + _ ≤ _; omega, Nat.zero_le _, Nat.zero_le _, (by decide : 0 < 262144)⟩) hp4
    have kw3 : ∀ c, c ≤ 17 ∨ 31 ≤ c → w3 c = u c := fun c hc => funext fun j => by
      rw [g3 c j (by omega), p4 c (by omega), c4' c j (by omega), kw c hc]
    obtain ⟨u2, r1, r2⟩ := ih g w3 (by omega) (by omega) kw3 (fun i l h1 h2 h3 => by
      by_cases e : i = k
      · subst e
        have := g2 l h3
        rw [z_jn (sh_cn _ _ _ _)] at this
        rw [show n - i = (n - 1 - i) + 1 by omega]
        exact this
      · exact (ds i l (by omega) h2 h3).kp (fun c h4 h5 => by rw [g3 c _ (by omega), p4 c (by omega)]; exact c4' c _ (by omega)))
    refine ⟨u2, ?_, r2⟩
    show e_X3_run_L51_b _ _ _ = _
    unfold e_X3_run_L51_b e_X3_run_J93
    have ek : nI (k + 1) - (1 : Int32) = nI k := nI_pred k
    have e2 : (2 : Int32) * nI k = nI (2 * k) := by rw [n_l2, n_mul]
    rw [ek, if_neg (by rw [n_l0, n_lt (by omega) (by omega)]; omega), e2, c1, bnv_some, x_why2 hb1 (show k < n by omega), bnd_some, if_pos rfl, p1, bnv_some, show e_X3_growPage RD w2 (nI k) (nI k) (2 : Int32) = some w3 from g1, bnv_some, nI_m1]
    exact r1
theorem x_run {u : Mem} {n H : Nat} {t kd : Nat → Nat} (hb : BK u n H t kd) : ∃ u2, e_X3_run u = some u2 ∧ KX u u2 ∧ SL u2 0 (DD H t kd n 0 0) := by
  have h9 := hb.1
  obtain ⟨w1, c1, c2, c3, c4'⟩ := x_clear (u := u) (s := 2 * n) (by omega)
  have e2 : (2 : Int32) * nI n = nI (2 * n) := by rw [n_l2, n_mul]
  have y1 : inb (nI (2 * n)) 20 = true := by rw [n_inb (by omega)]; simp; omega
  have y2 : inb (nI (2 * n + 1)) 20 = true := by rw [n_inb (by omega)]; simp; omega
  have w10 : w1 1 0 = nI n := by rw [c4' 1 0 (by omega)]; exact hb.2.2.1
  obtain ⟨u2, r1, r2, r3⟩ := x_runS hb n FU (put (put (put (put w1 26 (2 * n) (1 : Int32)) 28 (2 * n) (1 : Int32)) 26 (2 * n + 1) (1 : Int32)) 28 (2 * n + 1) (1 : Int32)) (Nat.le_refl n) (by unfold FU; omega) (fun c hc => by
    rw [put_cell _ _ _ (by omega), put_cell _ _ _ (by omega), put_cell _ _ _ (by omega), put_cell _ _ _ (by omega)]
    exact funext fun j => c4' c j (by omega)) (fun i l h1 h2 h3 => by
    have e : i = n := by omega
    subst e
    rw [Nat.sub_self]
    obtain ⟨a1, a2, a3, a4, a5⟩ := c2
    obtain ⟨b1, b2, b3, b4, b5⟩ := c3
    rcases (by omega : l = 0 ∨ l = 1) with e | e <;> subst e
    · unfold SL
      simp [put_get]
      exact ⟨rfl, a2, rfl, a4, a5⟩
    · unfold SL
      simp [put_get]
      exact ⟨rfl, b2, rfl, b4, b5⟩)
  refine ⟨u2, ?_, fun c hc => r2 c (by omega), ?_⟩
  · unfold e_X3_run
    rw [hb.2.2.1, e2, c1, bnv_some, nI_1, if_pos y1, if_pos y1, if_pos y2, if_pos y2, n_cl (by omega), n_cl (by omega), w10]
    exact r1
  · exact r3 0 0 (Nat.zero_le _) (by omega)
theorem x_fig {u : Mem} {n i : Nat} {A : GS} (hu : u 1 0 = nI n) (hn : n ≤ 9) (hi : i < n) (sl : SL u 0 A) (hc : A.2.2.2.2 < 262144) : e_X3_figure u (nI i) = some (nI (A.2.2.2.2 / 4 ^ (n - 1 - i) % 4), u) := by
  have hd : A.2.2.2.2 / 4 ^ (n - 1 - i) < 262144 := Nat.lt_of_le_of_lt (Nat.div_le_self _ _) hc
  have ek : (2 : Int32) * (nI n - 1 - nI i) = nI (2 * (n - 1 - i)) := by rw [n_l1, n_sub (by omega), n_sub (by omega), n_l2, n_mul]
  unfold e_X3_figure
  rw [if_pos (by decide), show ((0 : Int32).toNatClampNeg) = 0 from rfl, sl.2.2.2.2, hu, ek, n_31 (by omega), n_shr (by omega) (by omega), n_and3 (by omega)]
theorem DD_c {H n : Nat} {t kd : Nat → Nat} (hH : H ≤ 20) (hn : n ≤ 9) (ht : ∀ j, j < n → t j ≤ 6) : (DD H t kd n 0 0).2.2.2.2 < 262144 ∧ (DD H t kd n 0 0).1 ≤ 19683 := by
  have h := DD_b (kd := kd) hH hn ht n 0 0 (Nat.zero_add n)
  have h4 : 4 ^ n ≤ 4 ^ 9 := Nat.pow_le_pow_right (by omega) hn
  have e : 4 ^ 9 = 262144 := rfl
  have h3 := p3_le hn
  exact ⟨by omega, by omega⟩
theorem st_best : St1 RR e_X5_best e_X6_best := by
  intro u v hR x
  obtain ⟨B, P, I0, I1, h1, h2, h3, h4, h5, h6⟩ := id hR
  have h9 := h1.1
  have hb := BK.of h1 h2
  have hbm := BKM.of h1 h3
  have ht6 : ∀ j, j < B 0 0 → B 2 j ≤ 6 := fun j hj => (hb.2.2.2.2 j hj).2.2.1.2
  obtain ⟨u2, f1, f2, f3⟩ := x_run hb
  obtain ⟨v2, t1, t2, t3⟩ := m_all hbm
  obtain ⟨cA, wA⟩ := DD_c (kd := B 3) hb.2.1.2 h9 ht6
  generalize DD (B 0 1) (B 2) (B 3) (B 0 0) 0 0 = A at f3 t3 cA wA
  have hR2 : RR u2 v2 := hR.kp f2 t2
  have u10 : u2 1 0 = nI (B 0 0) := by rw [f2 1 (by omega)]; exact h2.1
  obtain ⟨s1, s2, s3, s4, s5⟩ := id f3
  obtain ⟨q18, qw, q0, q1⟩ := t3
  have z0 : (0 : Int32).toNatClampNeg = 0 := rfl
  have y0 : inb (0 : Int32) 20 = true := by decide
  have goes : e_X3_goes u2 = some (nI A.1, u2) := by unfold e_X3_goes; rw [if_pos y0, z0, s1]
  have few : e_X3_fewestPages u2 = some (nI A.2.1, u2) := by unfold e_X3_fewestPages; rw [if_pos y0, z0, s2]
  have lea : e_X3_leastRagged u2 = some (nI A.2.2.2.1, u2) := by unfold e_X3_leastRagged; rw [if_pos y0, z0, s4]
  have gif : e_X3_goesInFewest u2 = some (nI A.2.2.1, u2) := by unfold e_X3_goesInFewest; rw [if_pos y0, z0, s3]
  have kA : (nI A.1 = (0 : Int32)) = (A.1 = 0) := by rw [n_l0, n_eq (by omega) (by omega)]
  unfold e_X5_best e_X6_best
  by_cases hx : (0 ≤ x.toInt ∧ x.toInt ≤ 3) ∨ (10 ≤ x.toInt ∧ x.toInt ≤ 18)
  case neg =>
    refine ⟨-2, u, v, ?_, ?_, hR⟩
    · unfold e_X5_best_J16 e_X5_best_J17
      have s1 : (if x < 0 then some ((-2 : Int32), u) else if x ≤ 3 then e_X5_best_J34 u x 0 else some (-2, u)) = some (-2, u) := by
        split
        · rfl
        · rename_i q
          rw [if_neg]
          rw [i_lt] at q
          rw [i_le]
          change ¬ x.toInt < 0 at q
          change ¬ x.toInt ≤ 3
          omega
      rw [if_pos rfl, if_neg z1, s1]
      split
      · rfl
      · rename_i q
        rw [if_pos]
        rw [i_lt] at q
        rw [i_le]
        change ¬ x.toInt < 10 at q
        change 19 ≤ x.toInt
        omega
    · rw [in_no (by rw [i_lt, i_lt]; change x.toInt < 0 ∨ 3 < x.toInt; omega), bnd_some, if_pos rfl, in_no (by rw [i_lt, i_lt]; change x.toInt < 10 ∨ 18 < x.toInt; omega), bnd_some, if_pos rfl]
  obtain ⟨k, hk, rfl⟩ : ∃ k, (k ≤ 3 ∨ (10 ≤ k ∧ k ≤ 18)) ∧ x = nI k := ⟨x.toInt.toNat, by omega, i_of (by omega)⟩
  have k0 : (nI k = (0 : Int32)) = (k = 0) := by rw [n_l0, n_eq (by omega) (by omega)]
  have k1 : (nI k = (1 : Int32)) = (k = 1) := by rw [n_l1, n_eq (by omega) (by omega)]
  have k2 : (nI k = (2 : Int32)) = (k = 2) := by rw [n_l2, n_eq (by omega) (by omega)]
  have k3 : (nI k = (3 : Int32)) = (k = 3) := by rw [n_l3, n_eq (by omega) (by omega)]
  rcases hk with hk | hk
  · have e1 : e_X5_best_J16 u (nI k) = e_X5_best_J55 u (nI k) := by
      unfold e_X5_best_J16 e_X5_best_J17 e_X5_best_J34
      rw [if_pos rfl, if_neg (by rw [n_l0, n_lt (by omega) (by omega)]; omega), if_pos (by rw [n_l3, n_le (by omega) (by omega)]; omega), if_pos rfl]
    rw [if_pos (by rw [n_l10, n_lt (by omega) (by omega)]; omega), e1, in_yes (by rw [n_l0, n_lt (by omega) (by omega)]; omega) (by rw [n_l3, n_lt (by omega) (by omega)]; omega), bnd_some, if_neg z1]
    unfold e_X5_best_J55 e_X6_best_J23
    rw [f1, t1, bnv_some, bnv_some, goes, bnd_some, bnd_some]
    simp only [k0, k1, k2, k3, kA, few, lea, gif, bnd_some]
    by_cases w0 : A.1 = 0
    · obtain ⟨-, c1, c2, c3, c4⟩ := q0 w0
      simp only [if_pos w0]
      rcases (by omega : k = 0 ∨ k = 1 ∨ k = 2 ∨ k = 3) with e | e | e | e <;> subst e
      · exact ⟨-6, u2, v2, rfl, by rw [if_pos rfl, c1], hR2⟩
      · exact ⟨-6, u2, v2, rfl, by rw [if_neg (by decide), if_pos rfl, c3], hR2⟩
      · exact ⟨nI A.1, u2, v2, rfl, by rw [if_neg (by decide), if_neg (by decide), if_pos rfl, q18], hR2⟩
      · exact ⟨-6, u2, v2, rfl, by rw [if_neg (by decide), if_neg (by decide), if_neg (by decide), if_pos rfl, c2], hR2⟩
    · obtain ⟨bn, o1, o2, o3, o4, o5, o6, o7, o8⟩ := q1 w0
      simp only [if_neg w0]
      rcases (by omega : k = 0 ∨ k = 1 ∨ k = 2 ∨ k = 3) with e | e | e | e <;> subst e
      · exact ⟨nI A.2.1, u2, v2, rfl, by rw [if_pos rfl, o3], hR2⟩
      · exact ⟨nI A.2.2.2.1, u2, v2, rfl, by rw [if_neg (by decide), if_pos rfl, o5], hR2⟩
      · exact ⟨nI A.1, u2, v2, rfl, by rw [if_neg (by decide), if_neg (by decide), if_pos rfl, q18], hR2⟩
      · exact ⟨nI A.2.2.1, u2, v2, rfl, by rw [if_neg (by decide), if_neg (by decide), if_neg (by decide), if_pos rfl, o4], hR2⟩
  · obtain ⟨i, hi, rfl⟩ : ∃ i, i < 9 ∧ k = 10 + i := ⟨k - 10, by omega, by omega⟩
    have ei : nI (10 + i) - (10 : Int32) = nI i := by rw [n_l10, n_sub (by omega)]; congr 1; omega
    have yi : inb (nI i) 9 = true := by rw [n_inb (by omega)]; simp; omega
    rw [if_neg (by rw [n_l10, n_lt (by omega) (by omega)]; omega), if_neg (by rw [n_l19, n_le (by omega) (by omega)]; omega), in_no (Or.inr (by rw [n_l3, n_lt (by omega) (by omega)]; omega)), bnd_some, if_pos rfl, in_yes (by rw [n_l10, n_lt (by omega) (by omega)]; omega) (by rw [n_l18, n_lt (by omega) (by omega)]; omega), bnd_some, if_neg z1]
    unfold e_X5_best_J17 e_X5_best_J34 e_X6_best_J23
    rw [if_neg z1, if_neg z1, ei, t1, bnv_some]
    simp only [k0, k1, k2, k3]
    rw [if_neg (by omega), if_neg (by omega), if_neg (by omega), if_neg (by omega)]
    unfold e_X6_bestFigure
    rw [many_m, show v2 1 72 = nI (B 0 0) by rw [t2.1 1 (by omega) (by omega)]; exact h3.1]
    by_cases hib : i < B 0 0
    · rw [has_yes h1 h2 hib, bnd_some, if_neg z1]
      unfold e_X5_best_J55 e_X5_best_J148
      rw [f1, bnv_some, goes, bnd_some, bnd_some, ei]
      simp only [k0, k1, k2, k3, kA]
      rw [if_neg (show ¬ 10 + i = 2 by omega)]
      by_cases w0 : A.1 = 0
      · obtain ⟨-, c1, c2, c3, c4⟩ := q0 w0
        exact ⟨-6, u2, v2, by rw [if_pos w0], by rw [c4, if_pos m6_neg, bnd_some], hR2⟩
      · obtain ⟨bn, o1, o2, o3, o4, o5, o6, o7, o8⟩ := q1 w0
        have hp3 := p3_le h9
        obtain ⟨v3, r1, r2, r3⟩ := m_layN (v := v2) (num := bn) (hbm.kp (t2.1 1 (by omega) (by omega))) (by omega)
        refine ⟨nI (dgs 3 (B 0 0) bn i), u2, v3, ?_, ?_, hR.kp f2 (t2.tr ⟨fun k a b => r2 k (by omega), by rw [r2 0 (by omega)]⟩)⟩
        · rw [if_neg w0, if_neg (show ¬ 10 + i = 0 by omega), if_neg (show ¬ 10 + i = 1 by omega), if_neg (show ¬ 10 + i = 2 by omega), if_neg (show ¬ 10 + i = 3 by omega), x_fig u10 h9 hib f3 cA, bnd_some, o2, c4_dgs _ _ _ hib]
        · rw [o6, if_neg (by rw [n_l0, n_lt (by omega) (by omega)]; omega), bnd_some, if_pos (by rw [n_lt (by omega) (by omega)]; exact hib), o6, r1, bnv_some, if_pos yi, n_cl (by omega), r3 i hib, bnd_some]
    · rw [has_no h1 h2 (by unfold hp; rw [i_nI (by omega)]; omega), bnd_some, if_pos rfl]
      refine ⟨-6, u, v2, rfl, ?_, hR.kp KX.rf t2⟩
      have q : ¬ nI i < nI (B 0 0) := by rw [n_lt (by omega) (by omega)]; exact hib
      simp only [bnd_some, if_neg q]
      split <;> rfl
