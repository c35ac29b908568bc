/-! the reference tries all the layouts -/
theorem n_rem3 {a : Nat} (h : a < 100000) : nI a - nI a / (3 : Int32) * 3 = nI (a % 3) := by rw [n_l3, n_rem (by omega) (by omega) (by omega)]
theorem n_div3 {a : Nat} (h : a < 100000) : nI a / (3 : Int32) = nI (a / 3) := by rw [n_l3, n_div (by omega) (by omega) (by omega)]
theorem nI_m1 (k : Nat) : nI k + (-1 : Int32) = nI k - 1 := by
  rw [i_eq]
  rw [Int32.toInt_add, Int32.toInt_sub]
  rfl
theorem m_layNS {v0 : Mem} {num b : Nat} (hb : b ≤ 9) (hn : num < 19683) : ∀ (k g : Nat) (v : Mem), k ≤ b → k < g → (∀ z, z ≠ 7 → v z = v0 z) → (∀ j, k ≤ j → j < b → v 7 j = nI (dgs 3 b num j)) → ∃ v2, e_X6_layNumber_L9 g v (nI (num / 3 ^ (b - k))) (nI k - 1) = some v2 ∧ (∀ z, z ≠ 7 → v2 z = v0 z) ∧ ∀ j, j < b → v2 7 j = nI (dgs 3 b num j) := by
  intro k
  induction k with
  | zero =>
    intro g v hk hg km hc
    obtain ⟨g, rfl⟩ : ∃ z, g = z + 1 := ⟨g - 1, by omega⟩
    refine ⟨v, ?_, km, fun a ha => hc a (by omega) ha⟩
    show e_X6_layNumber_L9_b _ _ _ _ = _
    unfold e_X6_layNumber_L9_b
    rw [if_pos (by decide)]
  | succ k ih =>
    intro g v hk hg km hc
    obtain ⟨g, rfl⟩ : ∃ z, g = z + 1 := ⟨g - 1, by omega⟩
    have hr : num / 3 ^ (b - (k + 1)) < 19683 := Nat.lt_of_le_of_lt (Nat.div_le_self _ _) hn
    have hd : dgs 3 b num k = num / 3 ^ (b - (k + 1)) % 3 := by unfold dgs; rw [show b - 1 - k = b - (k + 1) by omega]
    have hq : num / 3 ^ (b - (k + 1)) / 3 = num / 3 ^ (b - k) := by
      rw [Nat.div_div_eq_div_mul, ← Nat.pow_succ, show (b - (k + 1)).succ = b - k by omega]
    obtain ⟨v2, e1, e2⟩ := ih g (put v 7 k (nI (dgs 3 b num k))) (by omega) (by omega) (fun z hz => by rw [put_cell _ _ _ (by omega)]; exact km z hz) (fun j h1 h2 => by
      by_cases e : j = k
      · subst e
        rw [put_same]
      · rw [put_slot _ _ (by omega)]; exact hc j (by omega) h2)
    refine ⟨v2, ?_, e2⟩
    show e_X6_layNumber_L9_b _ _ _ _ = _
    unfold e_X6_layNumber_L9_b
    have ek : nI (k + 1) - (1 : Int32) = nI k := nI_pred k
    have y1 : inb (nI k) 9 = true := by rw [n_inb (by omega)]; simp; omega
    rw [ek, if_neg (by rw [n_l0, n_lt (by omega) (by omega)]; omega), if_pos y1, n_cl (by omega), n_rem3 (by omega), n_div3 (by omega), hq, ← hd, nI_m1]
    exact e1
theorem m_layN {v : Mem} {num n H : Nat} {t kd : Nat → Nat} (hb : BKM v n H t kd) (hn : num < 19683) : ∃ v2, e_X6_layNumber v (nI num) = some v2 ∧ (∀ z, z ≠ 7 → v2 z = v z) ∧ ∀ j, j < n → v2 7 j = nI (dgs 3 n num j) := by
  have h72 := hb.2.2.1
  unfold e_X6_layNumber
  rw [many_m, bnd_some, h72]
  have := m_layNS (v0 := v) hb.1 hn n FU v (Nat.le_refl n) (by have := hb.1; unfold FU; omega) (fun _ _ => rfl) (fun j h1 h2 => by omega)
  rw [Nat.sub_self, Nat.pow_zero, Nat.div_one] at this
  exact this
theorem rgp_le {H n : Nat} {t kd f : Nat → Nat} (hH : H ≤ 20) (hn : n ≤ 9) (ht : ∀ j, j < n → t j ≤ 6) : ∀ {k : Nat}, k ≤ n → rgp H t kd f k ≤ 1300 * k
  | 0, _ => Nat.le_refl 0
  | k + 1, h => by
    have h1 := rgp_le (kd := kd) (f := f) hH hn ht (k := k) (by omega)
    have h2 := blh_le kd (pgs kd f k) k hH
    unfold rgp
    split
    · split
      · omega
      · have h3 := pe_b (f := f) (kd := kd) hH hn ht (show k - 1 < n by omega)
        omega
    · omega
theorem rgf_le {H n : Nat} {t kd f : Nat → Nat} (hH : H ≤ 20) (hn : n ≤ 9) (ht : ∀ j, j < n → t j ≤ 6) : rgf H t kd f n ≤ 20000 := by
  have h1 := rgp_le (kd := kd) (f := f) hH hn ht (Nat.le_refl n)
  unfold rgf
  split
  · omega
  · have h3 := pe_b (f := f) (kd := kd) hH hn ht (show n - 1 < n by omega)
    omega
def LM (n : Nat) (v : Mem) (A : GS) (num : Nat) : Prop := v 0 18 = nI A.1 ∧ A.1 ≤ num ∧ (A.1 = 0 → A = Zs ∧ v 0 19 = -6 ∧ v 0 20 = -6 ∧ v 0 21 = -6 ∧ v 0 22 = -6) ∧ (A.1 ≠ 0 → ∃ bn, bn < num ∧ A.2.2.2.2 = c4 n bn ∧ v 0 19 = nI A.2.1 ∧ v 0 20 = nI A.2.2.1 ∧ v 0 21 = nI A.2.2.2.1 ∧ v 0 22 = nI bn ∧ A.2.1 ≤ 27 ∧ A.2.2.2.1 ≤ 20000)
theorem m_j67 {w : Mem} {P' R' P f R bn num : Nat} (hP : P ≤ 27) (hP' : P' ≤ 27) (hR : R ≤ 20000) (hR' : R' ≤ 20000) (w12 : w 0 12 = nI P') (w13 : w 0 13 = nI R') (w19 : w 0 19 = nI P) (w20 : w 0 20 = nI f) (w21 : w 0 21 = nI R) (w22 : w 0 22 = nI bn) : ∃ w2, e_X6_tryOne_J67 w (nI num) = some w2 ∧ KM w w2 ∧ w2 0 18 = w 0 18 ∧ w2 0 19 = nI P ∧ w2 0 20 = nI (if P' = P then f + 1 else f) ∧ w2 0 21 = nI (if P' = P ∧ R' < R then R' else R) ∧ w2 0 22 = nI (if P' = P ∧ R' < R then num else bn) := by
  unfold e_X6_tryOne_J67
  rw [w12, w19]
  by_cases q : P' = P
  · rw [if_pos (by rw [q]), w21, w13, w20, nI_1]
    have g : ∀ (s0 : Int32), ∃ w2, e_X6_tryOne_J108 (put w 0 20 (nI (f + 1))) s0 = some w2 ∧ KM w w2 ∧ w2 0 18 = w 0 18 ∧ w2 0 19 = nI P ∧ w2 0 20 = nI (f + 1) ∧ w2 0 21 = nI (if R' < R then R' else R) ∧ w2 0 22 = s0 := by
      intro s0
      unfold e_X6_tryOne_J108 e_X6_tryOne_J134
      rw [show put w 0 20 (nI (f + 1)) 0 21 = nI R by rw [put_slot _ _ (by omega)]; exact w21, show put w 0 20 (nI (f + 1)) 0 13 = nI R' by rw [put_slot _ _ (by omega)]; exact w13]
      by_cases c : R' < R
      · rw [if_neg (by rw [n_le (by omega) (by omega)]; omega), if_pos c]
        refine ⟨_, rfl, ((KM.rf.pt _ (by omega)).pt _ (by omega)).pt _ (by omega), ?_, ?_, ?_, ?_, ?_⟩
        · simp [put_get]
        · simp [put_get]; exact w19
        · simp [put_get]
        · simp [put_get]
        · simp [put_get]
      · rw [if_pos (by rw [n_le (by omega) (by omega)]; omega), if_neg c]
        refine ⟨_, rfl, ((KM.rf.pt _ (by omega)).pt _ (by omega)).pt _ (by omega), ?_, ?_, ?_, ?_, ?_⟩
        · simp [put_get]
        · simp [put_get]; exact w19
        · simp [put_get]
        · simp [put_get]
        · simp [put_get]
    have e1 : (if P' = P ∧ R' < R then R' else R) = if R' < R then R' else R := by simp [q]
    have e2 : (if P' = P ∧ R' < R then num else bn) = if R' < R then num else bn := by simp [q]
    rw [if_pos q, e1, e2]
    by_cases c : R' < R
    · rw [if_neg (by rw [n_le (by omega) (by omega)]; omega)]
      obtain ⟨w2, g1, g2, g3, g4, g5, g6, g7⟩ := g (nI num)
      refine ⟨w2, g1, g2, g3, g4, g5, g6, ?_⟩
      rw [if_pos c]; exact g7
    · rw [if_pos (by rw [n_le (by omega) (by omega)]; omega), w22]
      obtain ⟨w2, g1, g2, g3, g4, g5, g6, g7⟩ := g (nI bn)
      refine ⟨w2, g1, g2, g3, g4, g5, g6, ?_⟩
      rw [if_neg c]; exact g7
  · rw [if_neg (by rw [n_eq (by omega) (by omega)]; exact q), if_neg q, if_neg (by omega), if_neg (by omega)]
    exact ⟨w, rfl, KM.rf, rfl, w19, w20, w21, w22⟩
theorem m_one {v : Mem} {n H num : Nat} {t kd : Nat → Nat} {A : GS} (hb : BKM v n H t kd) (hN : 3 ^ n ≤ 19683) (hn : num < 3 ^ n) (lm : LM n v A num) : ∃ v2, e_X6_tryOne v (nI num) = some v2 ∧ KM v v2 ∧ LM n v2 (FL H t kd n num A) (num + 1) := by
  have ht6 : ∀ j, j < n → t j ≤ 6 := fun j hj => (hb.2.2.2.2 j hj).2.2.1.2
  obtain ⟨v1, l1, l2, l3⟩ := m_layN (num := num) hb (by omega)
  have hb1 : BKM v1 n H t kd := hb.kp (l2 1 (by omega))
  obtain ⟨r, v2, g1, gz, g2⟩ := m_goThrough (f := dgs 3 n num) hb1 (fun j hj => ⟨by unfold dgs; omega, l3 j hj⟩)
  have k1 : KM v v1 := ⟨fun k a b => l2 k (by omega), by rw [l2 0 (by omega)]⟩
  have km2 : KM v v2 := k1.tr gz.km
  have h0 : ∀ j, 17 < j → v2 0 j = v 0 j := fun j hj => by rw [gz.2.2 j (Or.inr hj), l2 0 (by omega)]
  obtain ⟨m18, mw, mz, mo⟩ := lm
  unfold e_X6_tryOne
  rw [l1, bnv_some, g1, bnd_some]
  rcases g2 with ⟨go, rfl, -, g12, g13, -⟩ | ⟨q, hq, hq2, -, rfl, -⟩
  · have eF : FL H t kd n num A = jn A (1, pgs kd (dgs 3 n num) n, 1, rgf H t kd (dgs 3 n num) n, c4 n num) := by unfold FL; rw [if_pos (gb_iff.mpr go)]
    have hPb := pgs_le kd (dgs 3 n num) n
    have hRb : rgf H t kd (dgs 3 n num) n ≤ 20000 := rgf_le hb.2.1.2 hb.1 ht6
    have hn9 := hb.1
    rw [eF, if_pos m6_neg, h0 22 (by omega), h0 18 (by omega), h0 19 (by omega), m18, nI_1]
    generalize pgs kd (dgs 3 n num) n = P' at *
    generalize rgf H t kd (dgs 3 n num) n = R' at *
    have fresh : (A.1 = 0 ∨ P' < A.2.1) → ∃ w2, e_X6_tryOne_J41 (put v2 0 18 (nI (A.1 + 1))) (nI num) = some w2 ∧ KM v w2 ∧ LM n w2 (jn A (1, P', 1, R', c4 n num)) (num + 1) := by
      intro hA
      have ej : jn A (1, P', 1, R', c4 n num) = (A.1 + 1, P', 1, R', c4 n num) := by
        unfold jn
        rw [if_neg (show ¬ (1 : Nat) = 0 by decide)]
        by_cases a : A.1 = 0
        · rw [if_pos a]
        · rw [if_neg a, jt_lt (hA.resolve_left a)]
      rw [ej]
      unfold e_X6_tryOne_J41
      obtain ⟨w2, s1, s2, s3, s4, s5, s6, s7⟩ := m_j67 (w := put (put (put (put (put v2 0 18 (nI (A.1 + 1))) 0 19 ((put v2 0 18 (nI (A.1 + 1))) 0 12)) 0 20 (0 : Int32)) 0 22 (nI num)) 0 21 ((put v2 0 18 (nI (A.1 + 1))) 0 13)) (P' := P') (R' := R') (P := P') (f := 0) (R := R') (bn := num) (num := num) (by omega) (by omega) hRb hRb (by simp [put_get]; exact g12) (by simp [put_get]; exact g13) (by simp [put_get]; exact g12) (by simp [put_get]; rfl) (by simp [put_get]; exact g13) (by simp [put_get])
      refine ⟨w2, s1, (((((km2.pt _ (by omega)).pt _ (by omega)).pt _ (by omega)).pt _ (by omega)).pt _ (by omega)).tr s2, ?_, by show A.1 + 1 ≤ _; omega, fun h => absurd h (Nat.succ_ne_zero _), fun _ => ⟨num, by omega, rfl, s4, ?_, ?_, ?_, by show P' ≤ 27; omega, hRb⟩⟩
      · rw [s3]; simp [put_get]
      · rw [s5, if_pos rfl]
      · rw [s6, if_neg (by omega)]
      · rw [s7, if_neg (by omega)]
    by_cases a : A.1 = 0
    · obtain ⟨-, z1, z2, z3, z4⟩ := mz a
      rw [z4, if_pos m6_neg]
      exact fresh (Or.inl a)
    · obtain ⟨bn, o1, o2, o3, o4, o5, o6, o7, o8⟩ := mo a
      rw [o6, o3, g12, if_neg (by rw [n_l0, n_lt (by omega) (by omega)]; omega)]
      by_cases q : P' < A.2.1
      · rw [if_neg (by rw [n_le (by omega) (by omega)]; omega)]
        exact fresh (Or.inr q)
      · rw [if_pos (by rw [n_le (by omega) (by omega)]; omega)]
        obtain ⟨w2, s1, s2, s3, s4, s5, s6, s7⟩ := m_j67 (w := put v2 0 18 (nI (A.1 + 1))) (P' := P') (R' := R') (P := A.2.1) (f := A.2.2.1) (R := A.2.2.2.1) (bn := bn) (num := num) o7 (by omega) o8 hRb (by rw [put_slot _ _ (by omega)]; exact g12) (by rw [put_slot _ _ (by omega)]; exact g13) (by rw [put_slot _ _ (by omega), h0 19 (by omega)]; exact o3) (by rw [put_slot _ _ (by omega), h0 20 (by omega)]; exact o4) (by rw [put_slot _ _ (by omega), h0 21 (by omega)]; exact o5) (by rw [put_slot _ _ (by omega), h0 22 (by omega)]; exact o6)
        have hc : c4 n bn < c4 n num := c4_mono o1 hn
        have hw : ∃ w2, e_X6_tryOne_J67 (put v2 0 18 (nI (A.1 + 1))) (nI num) = some w2 ∧ KM v w2 ∧ LM n w2 (jn A (1, P', 1, R', c4 n num)) (num + 1) := by
          have ej : jn A (1, P', 1, R', c4 n num) = (A.1 + 1, jt A.2 (P', 1, R', c4 n num)) := by
            unfold jn
            rw [if_neg (show ¬ (1 : Nat) = 0 by decide), if_neg a]
          rw [ej]
          refine ⟨w2, s1, (km2.pt _ (by omega)).tr s2, ?_, by show A.1 + 1 ≤ _; omega, fun h => absurd h (Nat.succ_ne_zero _), fun _ => ?_⟩
          · rw [s3, put_same]
          · by_cases q2 : P' = A.2.1
            · rw [jt_eq (show ((P', 1, R', c4 n num) : GK).1 = A.2.1 from q2)]
              rw [if_pos q2] at s5
              unfold m2
              by_cases c : R' < A.2.2.2.1
              · rw [if_pos ⟨q2, c⟩] at s6 s7
                rw [if_pos (show R' < A.2.2.2.1 ∨ (R' = A.2.2.2.1 ∧ c4 n num < A.2.2.2.2) from Or.inl c)]
                exact ⟨num, by omega, rfl, s4, s5, s6, s7, o7, hRb⟩
              · rw [if_neg (by omega)] at s6 s7
                rw [if_neg (show ¬ (R' < A.2.2.2.1 ∨ (R' = A.2.2.2.1 ∧ c4 n num < A.2.2.2.2)) by omega)]
                exact ⟨bn, by omega, o2, s4, s5, s6, s7, o7, o8⟩
            · rw [jt_gt (show A.2.1 < ((P', 1, R', c4 n num) : GK).1 from (by omega : A.2.1 < P'))]
              rw [if_neg q2] at s5
              rw [if_neg (by omega)] at s6 s7
              exact ⟨bn, by omega, o2, s4, s5, s6, s7, o7, o8⟩
        exact hw
  · have eF : FL H t kd n num A = A := by
      unfold FL
      rw [if_neg]
      intro h
      exact hq2 ((gb_iff.mp h) q hq)
    have hn9 := hb.1
    rw [eF, if_neg (nI_nneg (by omega))]
    refine ⟨v2, rfl, km2, by rw [h0 18 (by omega)]; exact m18, by omega, fun a => ?_, fun a => ?_⟩
    · rw [h0 19 (by omega), h0 20 (by omega), h0 21 (by omega), h0 22 (by omega)]; exact mz a
    · rw [h0 19 (by omega), h0 20 (by omega), h0 21 (by omega), h0 22 (by omega)]
      obtain ⟨bn, o1, o2⟩ := mo a
      exact ⟨bn, by omega, o2⟩
theorem m_allS {v0 : Mem} {n H : Nat} {t kd : Nat → Nat} (hb : BKM v0 n H t kd) (hN : 3 ^ n ≤ 19683) : ∀ (m num g : Nat) (v : Mem) (A : GS), num + m = 3 ^ n → m < g → KM v0 v → LM n v A num → ∃ v2, e_X6_tryAll_L53 g v (nI (3 ^ n)) (nI num) = some v2 ∧ KM v0 v2 ∧ LM n v2 (rf (FL H t kd n) num m A) (3 ^ n) := by
  intro m
  induction m with
  | zero =>
    intro num g v A hnum hg km lm
    obtain ⟨g, rfl⟩ : ∃ z, g = z + 1 := ⟨g - 1, by omega⟩
    have e : num = 3 ^ n := by omega
    refine ⟨v, ?_, km, by rw [← e]; exact lm⟩
    show e_X6_tryAll_L53_b _ _ _ _ = _
    unfold e_X6_tryAll_L53_b
    rw [if_pos (by rw [n_le (by omega) (by omega)]; omega)]
  | succ m ih =>
    intro num g v A hnum hg km lm
    obtain ⟨g, rfl⟩ : ∃ z, g = z + 1 := ⟨g - 1, by omega⟩
    have e0 : rf (FL H t kd n) num (m + 1) A = rf (FL H t kd n) (num + 1) m (FL H t kd n num A) := by rw [Nat.add_comm m 1, rf_app]; rfl
    rw [e0]
    obtain ⟨v1, l1, l2, l3⟩ := m_one (hb.kp (km.1 1 (by omega) (by omega))) hN (show num < 3 ^ n by omega) lm
    obtain ⟨v2, r1, r2⟩ := ih (num + 1) g v1 _ (by omega) (by omega) (km.tr l2) l3
    refine ⟨v2, ?_, r2⟩
    show e_X6_tryAll_L53_b _ _ _ _ = _
    unfold e_X6_tryAll_L53_b
    rw [if_neg (by rw [n_le (by omega) (by omega)]; omega), l1, bnv_some, nI_1]
    exact r1
theorem p3_le {n : Nat} (h : n ≤ 9) : 3 ^ n ≤ 19683 := by
  have : 3 ^ n ≤ 3 ^ 9 := Nat.pow_le_pow_right (by omega) h
  exact this
theorem m_all {v : Mem} {n H : Nat} {t kd : Nat → Nat} (hb : BKM v n H t kd) : ∃ v2, e_X6_tryAll v = some v2 ∧ KM v v2 ∧ LM n v2 (DD H t kd n 0 0) (3 ^ n) := by
  have hN := p3_le hb.1
  have hn9 := hb.1
  have ht : ∀ j, j < n → t j ≤ H := fun j hj => by
    have := (hb.2.2.2.2 j hj).2.2.1.2
    have := hb.2.1.1
    omega
  have km : KM v (put (put (put (put (put v 0 18 (0 : Int32)) 0 19 (-6 : Int32)) 0 20 (-6 : Int32)) 0 21 (-6 : Int32)) 0 22 (-6 : Int32)) := ((((KM.rf.pt _ (by omega)).pt _ (by omega)).pt _ (by omega)).pt _ (by omega)).pt _ (by omega)
  unfold e_X6_tryAll
  generalize hw : put (put (put (put (put v 0 18 (0 : Int32)) 0 19 (-6 : Int32)) 0 20 (-6 : Int32)) 0 21 (-6 : Int32)) 0 22 (-6 : Int32) = w at km
  have hbw : BKM w n H t kd := hb.kp (km.1 1 (by omega) (by omega))
  have lm : LM n w Zs 0 := by
    rw [← hw]
    exact ⟨by simp [put_get]; rfl, Nat.le_refl 0, fun _ => ⟨rfl, by simp [put_get], by simp [put_get], by simp [put_get], by simp [put_get]⟩, fun h => absurd rfl h⟩
  have key : ∀ (m k g : Nat), k + m = n → m < g → ∃ v2, e_X6_tryAll_L33 g w (nI (3 ^ k)) (nI k) = some v2 ∧ KM v v2 ∧ LM n v2 (DD H t kd n 0 0) (3 ^ n) := by
    intro m
    induction m with
    | zero =>
      intro k g hk hg
      obtain ⟨g, rfl⟩ : ∃ z, g = z + 1 := ⟨g - 1, by omega⟩
      have e : k = n := by omega
      subst e
      obtain ⟨v2, r1, r2, r3⟩ := m_allS hbw hN (3 ^ k) 0 FU w Zs (by omega) (by unfold FU; omega) KM.rf lm
      have et := treeL (H := H) (t := t) (kd := kd) k 0 0 Zs (Nat.zero_add k)
      rw [Nat.zero_mul, if_pos (show gb H t kd (dgs 3 0 0) 0 = true from rfl), TT_DD ht, z_jn (DD_cn _ _ _ _ _ _)] at et
      rw [et] at r3
      refine ⟨v2, ?_, km.tr r2, r3⟩
      show e_X6_tryAll_L33_b _ _ _ _ = _
      unfold e_X6_tryAll_L33_b
      rw [many_m, bnd_some, hbw.2.2.1, if_pos (by rw [n_le (by omega) (by omega)]; omega)]
      exact r1
    | succ m ih =>
      intro k g hk hg
      obtain ⟨g, rfl⟩ : ∃ z, g = z + 1 := ⟨g - 1, by omega⟩
      obtain ⟨v2, r1, r2⟩ := ih (k + 1) g (by omega) (by omega)
      refine ⟨v2, ?_, r2⟩
      show e_X6_tryAll_L33_b _ _ _ _ = _
      unfold e_X6_tryAll_L33_b
      rw [many_m, bnd_some, hbw.2.2.1, if_neg (by rw [n_le (by omega) (by omega)]; omega), n_l3, n_mul, nI_1, ← Nat.pow_succ]
      exact r1
  exact key n 0 FU (by omega) (by unfold FU; omega)
