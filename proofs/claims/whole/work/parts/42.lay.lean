def XS (u : Mem) (t f : Nat → Nat) (k : Nat) : Prop := ∀ j, j < k → AX 9 u t f j ∧ u 10 j = nI (f j)
theorem AX.kp {u u2 : Mem} {t f : Nat → Nat} {c i : Nat} (h : AX c u t f i) (hk : ∀ k, c + 3 ≤ k → k ≤ c + 7 → u2 k i = u k i) : AX c u2 t f i := by
  unfold AX
  rw [hk (c + 3) (by omega) (by omega), hk (c + 4) (by omega) (by omega), hk (c + 5) (by omega) (by omega), hk (c + 6) (by omega) (by omega), hk (c + 7) (by omega) (by omega)]
  exact h
theorem x_pour_loop {u0 : Mem} {n H : Nat} {t kd f : Nat → Nat} (hb : BK u0 n H t kd) (hf : ∀ j, j < n → f j ≤ 2 ∧ u0 8 j = nI (48 + f j)) : ∀ (m i g : Nat) (u : Mem), i + m = n → m < g → KX u0 u → u 9 0 = nI i → XS u t f i → (∀ j, j < i → wy H t kd f j = 0) → ∃ r u2, e_X1_pour_L5 g u = some (r, u2) ∧ KX u0 u2 ∧ ((GO H t kd f n ∧ r = 0 ∧ XS u2 t f n) ∨ ∃ q, q < n ∧ wy H t kd f q ≠ 0 ∧ (∀ j, j < q → wy H t kd f j = 0) ∧ r = nI (wy H t kd f q) ∧ u2 9 0 = nI q) := by
  intro m
  have h9 := hb.1
  induction m with
  | zero =>
    intro i g u hi hg kx h0 xs hw
    obtain ⟨g, rfl⟩ : ∃ k, g = k + 1 := ⟨g - 1, by omega⟩
    have e : i = n := by omega
    subst e
    refine ⟨0, u, ?_, kx, Or.inl ⟨hw, rfl, xs⟩⟩
    show e_X1_pour_L5_b _ _ = _
    unfold e_X1_pour_L5_b
    rw [kx 1 (by omega), hb.2.2.1, h0, if_pos (by rw [n_le (by omega) (by omega)]; omega)]
  | succ m ih =>
    intro i g u hi hg kx h0 xs hw
    obtain ⟨g, rfl⟩ : ∃ k, g = k + 1 := ⟨g - 1, by omega⟩
    have hbu : BK u n H t kd := hb.kp (fun k hk => kx k (by omega))
    obtain ⟨f2, f8⟩ := hf i (by omega)
    have efig : e_X2_figure u (nI i) = some (nI (f i), u) := by
      unfold e_X2_figure
      rw [if_pos (by rw [n_inb (by omega)]; simp; omega), n_cl (by omega), kx 8 (by omega), f8, n_l48, n_sub (by omega), Nat.add_sub_cancel_left]
    have ew := xl_why hbu (show i < n by omega) f2 (fun h1 => (xs (i - 1) (by omega)).1)
    have hwl := wy_le H t kd f i
    show ∃ r u2, e_X1_pour_L5_b _ _ = _ ∧ _
    unfold e_X1_pour_L5_b
    simp only [hbu.2.2.1, h0, efig, bnd_some, ew]
    rw [if_neg (by rw [n_le (by omega) (by omega)]; omega)]
    by_cases q : wy H t kd f i = 0
    · obtain ⟨u2, e1, e2, e3, e4, e5⟩ := xl_put hbu (show i < n by omega) f2 (fun h1 => (xs (i - 1) (by omega)).1) (wy0 q).1
      have h20 : u2 9 0 = nI i := by rw [e5 9 (by omega)]; exact h0
      have kx2 : KX u0 u2 := kx.tr (fun k hk => e5 k (by omega))
      obtain ⟨r, u3, g1, g2⟩ := ih (i + 1) g (put u2 9 0 (nI (i + 1))) (by omega) (by omega) (kx2.pt _ _ (by omega)) (put_same _ _ _ _) (fun j hj => by
        rw [put_cell _ _ _ (by omega)]
        by_cases hji : j = i
        · subst hji
          exact ⟨e3.kp (fun k _ _ => by rw [put_cell _ _ _ (by omega)]), e2⟩
        · refine ⟨(xs j (by omega)).1.kp (fun k _ _ => ?_), ?_⟩
          · rw [put_cell _ _ _ (by omega)]; exact e4 k j hji
          · rw [e4 10 j hji]; exact (xs j (by omega)).2) (fun j hj => by
        by_cases hji : j = i
        · subst hji; exact q
        · exact hw j (by omega))
      refine ⟨r, u3, ?_, g2⟩
      rw [if_pos (by rw [q]; rfl), e1, bnv_some, h20, n_l1, n_add]
      exact g1
    · refine ⟨nI (wy H t kd f i), u, ?_, kx, Or.inr ⟨i, by omega, q, hw, rfl, h0⟩⟩
      rw [if_neg (by rw [n_l0, n_eq (by omega) (by omega)]; exact q)]
theorem x_pour {u : Mem} {n H : Nat} {t kd f : Nat → Nat} (hb : BK u n H t kd) (hf : ∀ j, j < n → f j ≤ 2 ∧ u 8 j = nI (48 + f j)) : ∃ r u2, e_X1_pour u = some (r, u2) ∧ KX u u2 ∧ ((GO H t kd f n ∧ r = 0 ∧ XS u2 t f n) ∨ ∃ q, q < n ∧ wy H t kd f q ≠ 0 ∧ (∀ j, j < q → wy H t kd f j = 0) ∧ r = nI (wy H t kd f q) ∧ u2 9 0 = nI q) := by
  have h9 := hb.1
  exact x_pour_loop hb hf n 0 FU _ (by omega) (by unfold FU; omega) (KX.rf.pt _ _ (by omega)) (put_same _ _ _ _) (fun j hj => by omega) (fun j hj => by omega)
/-- the numbering of pages: cells 9 and 11 alone are written -/
def NS (u : Mem) (n H : Nat) (t kd f : Nat → Nat) (i : Nat) : Prop := u 9 1 = nI (pgs kd f i) ∧ u 9 2 = nI (bls kd f i) ∧ u 9 3 = nI (trs f i) ∧ u 9 4 = nI (if i = 0 then 0 else rgp H t kd f i + if i = n ∨ f i = 2 then pe H t kd f (i - 1) else 0) ∧ ∀ j, j < i → u 11 j = nI (pag kd f j)
theorem x_turn {u : Mem} {n H i : Nat} {t kd f : Nat → Nat} (hb : BK u n H t kd) (hi : i < n) (hf : f i = 2) (h1 : u 9 1 = nI (pgs kd f i)) (h2 : u 9 2 = nI (bls kd f i)) {r : Nat} (h4 : u 9 4 = nI r) : ∃ u2, e_X1_turnPage u (nI i) = some u2 ∧ u2 9 1 = nI (pgs kd f (i + 1)) ∧ u2 9 2 = nI (bls kd f (i + 1)) ∧ u2 9 3 = u 9 3 ∧ u2 9 4 = nI (r + blk kd (pgs kd f i) i * (H * H)) ∧ u2 11 i = nI (pag kd f i) ∧ (∀ j, j ≠ i → u2 11 j = u 11 j) ∧ ∀ k, k ≠ 9 → k ≠ 11 → u2 k = u k := by
  have h9 := hb.1
  have b11 := hb.2.2.2.1
  have pb := pgs_le kd f i
  have y1 : inb (nI i) 9 = true := by rw [n_inb (by omega)]; simp; omega
  have ec : (nI i).toNatClampNeg = i := n_cl (by omega)
  have hpag : pag kd f i = pgs kd f i + blk kd (pgs kd f i) i := by
    match i, hf with
    | 0, _ => show blk kd 0 0 = 0 + blk kd 0 0; omega
    | j + 1, hf => rw [pag, if_pos hf]
  have hpgs : pgs kd f (i + 1) = pgs kd f i + blk kd (pgs kd f i) i + (if kd i = 2 then 2 else 1) := by rw [pgs, if_pos hf]
  have hbls : bls kd f (i + 1) = bls kd f i + blk kd (pgs kd f i) i := by rw [bls, if_pos hf]
  have j55 : ∀ (w : Mem) (b : Nat), w 9 1 = nI (pgs kd f i + b) → w 9 2 = nI (bls kd f i + b) → w 9 3 = u 9 3 → w 9 4 = nI (r + b * (H * H)) → b = blk kd (pgs kd f i) i → (∀ k, k ≠ 9 → w k = u k) → ∃ u2, e_X1_turnPage_J55 w (nI i) = some u2 ∧ u2 9 1 = nI (pgs kd f (i + 1)) ∧ u2 9 2 = nI (bls kd f (i + 1)) ∧ u2 9 3 = u 9 3 ∧ u2 9 4 = nI (r + blk kd (pgs kd f i) i * (H * H)) ∧ u2 11 i = nI (pag kd f i) ∧ (∀ j, j ≠ i → u2 11 j = u 11 j) ∧ ∀ k, k ≠ 9 → k ≠ 11 → u2 k = u k := by
    intro w b w1 w2 w3 w4 hbb wk
    have hbw : BK (put w 11 i (nI (pgs kd f i + b))) n H t kd := hb.kp (fun k hk => by rw [put_cell _ _ _ (by omega)]; exact wk k (by omega))
    unfold e_X1_turnPage_J55 e_X1_turnPage_J83
    rw [if_pos y1, ec, w1, x_spr hbw hi, bnd_some]
    have key : ∀ z : Nat, z = (if kd i = 2 then 2 else 1) → ∃ u2, some (put (put w 11 i (nI (pgs kd f i + b))) 9 1 (nI (pgs kd f i + b) + nI z)) = some u2 ∧ u2 9 1 = nI (pgs kd f (i + 1)) ∧ u2 9 2 = nI (bls kd f (i + 1)) ∧ u2 9 3 = u 9 3 ∧ u2 9 4 = nI (r + blk kd (pgs kd f i) i * (H * H)) ∧ u2 11 i = nI (pag kd f i) ∧ (∀ j, j ≠ i → u2 11 j = u 11 j) ∧ ∀ k, k ≠ 9 → k ≠ 11 → u2 k = u k := by
      intro z hz
      rw [n_add]
      refine ⟨_, rfl, ?_, ?_, ?_, ?_, ?_, fun j hj => ?_, fun k k1 k2 => ?_⟩
      · rw [put_same, hpgs, hbb, hz]
      · rw [put_slot _ _ (by omega), put_cell _ _ _ (by omega), w2, hbls, hbb]
      · rw [put_slot _ _ (by omega), put_cell _ _ _ (by omega), w3]
      · rw [put_slot _ _ (by omega), put_cell _ _ _ (by omega), w4, hbb]
      · rw [put_cell _ _ _ (by omega), put_same, hpag, hbb]
      · rw [put_cell _ _ _ (by omega), put_slot _ _ (by omega), wk 11 (by omega)]
      · rw [put_cell _ _ _ k1, put_cell _ _ _ k2, wk k k1]
    by_cases k2 : kd i = 2
    · rw [if_pos k2, if_neg z1]
      exact key 2 (by rw [if_pos k2])
    · rw [if_neg k2, if_pos rfl]
      exact key 1 (by rw [if_neg k2])
  unfold e_X1_turnPage
  rw [x_lft hb hi, bnd_some]
  by_cases hk : kd i = 2 ∨ kd i = 3
  · rw [if_pos hk, if_neg z1, h1, m_mod2 (by omega)]
    by_cases hev : pgs kd f i % 2 = 0
    · have hbb : blk kd (pgs kd f i) i = 1 := by unfold blk; rw [if_pos ⟨hk, hev⟩]
      rw [if_pos (by rw [hev]; rfl), h2, h4, b11, n_l1, n_add, n_add, n_mul, n_add]
      refine j55 _ 1 ?_ ?_ ?_ ?_ hbb.symm (fun k hk => ?_)
      · simp [put_get]
      · simp [put_get]
      · simp [put_get]
      · simp [put_get]
      · rw [put_cell _ _ _ hk, put_cell _ _ _ hk, put_cell _ _ _ hk]
    · have hbb : blk kd (pgs kd f i) i = 0 := by unfold blk; rw [if_neg (fun q => hev q.2)]
      rw [if_neg (by rw [n_l0, n_eq (by omega) (by omega)]; exact hev)]
      exact j55 u 0 h1 h2 rfl (by rw [h4, Nat.zero_mul]; rfl) hbb.symm (fun _ _ => rfl)
  · have hbb : blk kd (pgs kd f i) i = 0 := by unfold blk; rw [if_neg (fun q => hk q.1)]
    rw [if_neg hk, if_pos rfl]
    exact j55 u 0 h1 h2 rfl (by rw [h4, Nat.zero_mul]; rfl) hbb.symm (fun _ _ => rfl)
theorem x_num_loop {u0 : Mem} {n H : Nat} {t kd f : Nat → Nat} (hb : BK u0 n H t kd) (hf : ∀ j, j < n → f j ≤ 2) (hgo : GO H t kd f n) (xs : XS u0 t f n) : ∀ (m i g : Nat) (u : Mem), i + m = n → m < g → (∀ k, k ≠ 9 → k ≠ 11 → u k = u0 k) → NS u n H t kd f i → ∃ u2, e_X1_numberPages_L22 g u (nI i) = some u2 ∧ (∀ k, k ≠ 9 → k ≠ 11 → u2 k = u0 k) ∧ NS u2 n H t kd f n := by
  intro m
  have h9 := hb.1
  induction m with
  | zero =>
    intro i g u hi hg hk ns
    obtain ⟨g, rfl⟩ : ∃ k, g = k + 1 := ⟨g - 1, by omega⟩
    have e : i = n := by omega
    subst e
    refine ⟨u, ?_, hk, ns⟩
    show e_X1_numberPages_L22_b _ _ _ = _
    unfold e_X1_numberPages_L22_b
    rw [hk 1 (by omega) (by omega), hb.2.2.1, if_pos (by rw [n_le (by omega) (by omega)]; omega)]
  | succ m ih =>
    intro i g u hi hg hk ns
    obtain ⟨g, rfl⟩ : ∃ k, g = k + 1 := ⟨g - 1, by omega⟩
    obtain ⟨n1, n2, n3, n4, nj⟩ := ns
    have hin : i < n := by omega
    have y1 : inb (nI i) 9 = true := by rw [n_inb (by omega)]; simp; omega
    have ec : (nI i).toNatClampNeg = i := n_cl (by omega)
    have f2 := hf i hin
    have fi : u0 10 i = nI (f i) := (xs i hin).2
    have vp := VP.of f2 (hgo i hin)
    have e_0 : (nI (f i) = (0 : Int32)) = (f i = 0) := by rw [n_l0, n_eq (by omega) (by omega)]
    have e_2 : (nI (f i) = (2 : Int32)) = (f i = 2) := by rw [n_l2, n_eq (by omega) (by omega)]
    -- from J67 on
    have j67 : ∀ w : Mem, (∀ k, k ≠ 9 → k ≠ 11 → w k = u0 k) → w 9 1 = nI (pgs kd f (i + 1)) → w 9 2 = nI (bls kd f (i + 1)) → w 9 3 = nI (trs f i) → w 9 4 = nI (rgp H t kd f (i + 1)) → (∀ j, j < i + 1 → w 11 j = nI (pag kd f j)) → ∃ u2, e_X1_numberPages_J67 (e_X1_numberPages_L22 g) w (nI i) = some u2 ∧ (∀ k, k ≠ 9 → k ≠ 11 → u2 k = u0 k) ∧ NS u2 n H t kd f n := by
      intro w wk w1 w2 w3 w4 wj
      have j86 : ∀ w2' : Mem, (∀ k, k ≠ 9 → k ≠ 11 → w2' k = u0 k) → w2' 9 1 = nI (pgs kd f (i + 1)) → w2' 9 2 = nI (bls kd f (i + 1)) → w2' 9 3 = nI (trs f (i + 1)) → w2' 9 4 = nI (rgp H t kd f (i + 1)) → (∀ j, j < i + 1 → w2' 11 j = nI (pag kd f j)) → ∃ u2, e_X1_numberPages_J86 (e_X1_numberPages_L22 g) w2' (nI i) = some u2 ∧ (∀ k, k ≠ 9 → k ≠ 11 → u2 k = u0 k) ∧ NS u2 n H t kd f n := by
        intro z zk z1' z2 z3 z4 zj
        have hbz : BK z n H t kd := hb.kp (fun k hk => zk k (by omega) (by omega))
        have er := xl_rag hbz hin ((xs i hin).1.kp (fun k _ _ => by rw [zk k (by omega) (by omega)])) vp.2.2
        have stp : (i + 1 = n ∨ f (i + 1) = 2) → ∃ u2, (bnd (e_X1_raggedOfPage z (nI i)) fun r2 u2 => e_X1_numberPages_J123 (e_X1_numberPages_L22 g) (put u2 9 4 (z 9 4 + r2)) (nI i)) = some u2 ∧ (∀ k, k ≠ 9 → k ≠ 11 → u2 k = u0 k) ∧ NS u2 n H t kd f n := by
          intro q
          unfold e_X1_numberPages_J123
          rw [er, bnd_some, z4, n_add, n_l1, n_add]
          exact ih (i + 1) g (put z 9 4 (nI (rgp H t kd f (i + 1) + pe H t kd f i))) (by omega) (by omega) (fun k h1 h2 => by rw [put_cell _ _ _ h1]; exact zk k h1 h2) ⟨by rw [put_slot _ _ (by omega)]; exact z1', by rw [put_slot _ _ (by omega)]; exact z2, by rw [put_slot _ _ (by omega)]; exact z3, by rw [put_same, if_neg (by omega), if_pos q, Nat.add_sub_cancel], fun j hj => by rw [put_cell _ _ _ (by omega)]; exact zj j hj⟩
        unfold e_X1_numberPages_J86 e_X1_numberPages_J108
        rw [hbz.2.2.1, n_l1, n_add]
        by_cases q1 : i + 1 = n
        · rw [if_pos (by rw [q1])]
          exact stp (Or.inl q1)
        · have fi1 : z 10 (i + 1) = nI (f (i + 1)) := by rw [zk 10 (by omega) (by omega)]; exact (xs (i + 1) (by omega)).2
          have f21 := hf (i + 1) (by omega)
          rw [if_neg (by rw [n_eq (by omega) (by omega)]; exact q1), if_pos (by rw [n_inb (by omega)]; simp; omega), n_cl (by omega), fi1]
          by_cases q2 : f (i + 1) = 2
          · rw [if_pos (by rw [q2]; rfl)]
            exact stp (Or.inr q2)
          · rw [if_neg (by rw [n_l2, n_eq (by omega) (by omega)]; exact q2)]
            unfold e_X1_numberPages_J123
            rw [n_l1, n_add]
            exact ih (i + 1) g z (by omega) (by omega) zk ⟨z1', z2, z3, by rw [z4, if_neg (by omega), if_neg (fun q => q.elim q1 q2)]; rfl, zj⟩
      unfold e_X1_numberPages_J67
      rw [if_pos y1, ec, wk 10 (by omega) (by omega), fi]
      simp only [e_0]
      by_cases q0 : f i = 0
      · rw [if_pos q0]
        exact j86 w wk w1 w2 (by rw [w3, trs, if_pos q0]) w4 wj
      · rw [if_neg q0, w3, n_l1, n_add]
        exact j86 _ (fun k h1 h2 => by rw [put_cell _ _ _ h1]; exact wk k h1 h2) (by rw [put_slot _ _ (by omega)]; exact w1) (by rw [put_slot _ _ (by omega)]; exact w2) (by rw [put_same, trs, if_neg q0]) (by rw [put_slot _ _ (by omega)]; exact w4) (fun j hj => by rw [put_cell _ _ _ (by omega)]; exact wj j hj)
    show ∃ u2, e_X1_numberPages_L22_b _ _ _ = _ ∧ _
    unfold e_X1_numberPages_L22_b
    rw [hk 1 (by omega) (by omega), hb.2.2.1, if_neg (by rw [n_le (by omega) (by omega)]; omega), if_pos y1, ec, hk 10 (by omega) (by omega), fi]
    simp only [e_2]
    by_cases q2 : f i = 2
    · have hbu : BK u n H t kd := hb.kp (fun k hk' => hk k (by omega) (by omega))
      obtain ⟨u2, t1, t2, t3, t4, t5, t6, t7, t8⟩ := x_turn hbu hin q2 n1 n2 n4
      rw [if_pos q2, t1, bnv_some]
      refine j67 u2 (fun k h1 h2 => by rw [t8 k h1 h2]; exact hk k h1 h2) t2 t3 (by rw [t4]; exact n3) ?_ (fun j hj => ?_)
      · rw [t5]
        have e : rgp H t kd f (i + 1) = rgp H t kd f i + (if i = 0 then 0 else pe H t kd f (i - 1)) + blk kd (pgs kd f i) i * (H * H) := by rw [rgp, if_pos q2]
        rw [e]
        congr 2
        by_cases i0 : i = 0
        · subst i0; simp [rgp]
        · simp [i0, q2]
      · by_cases hji : j = i
        · subst hji; exact t6
        · rw [t7 j hji]; exact nj j (by omega)
    · have hi1 := (wy0 (hgo i hin)).1 q2
      have hpag : pag kd f i = pag kd f (i - 1) := by
        obtain ⟨j, rfl⟩ : ∃ j, i = j + 1 := ⟨i - 1, by omega⟩
        rw [pag, if_neg q2, Nat.add_sub_cancel]
      rw [if_neg q2, if_neg (by rw [n_l0, n_le (by omega) (by omega)]; omega), n_l1, n_sub hi1, if_pos (by rw [n_inb (by omega)]; simp; omega), if_pos y1, n_cl (by omega), nj (i - 1) (by omega)]
      refine j67 _ (fun k h1 h2 => by rw [put_cell _ _ _ h2]; exact hk k h1 h2) (by rw [put_cell _ _ _ (by omega), n1, pgs, if_neg q2]) (by rw [put_cell _ _ _ (by omega), n2, bls, if_neg q2]) (by rw [put_cell _ _ _ (by omega)]; exact n3) ?_ (fun j hj => ?_)
      · rw [put_cell _ _ _ (by omega), n4, if_neg (by omega), if_neg (by omega), rgp, if_neg q2]; rfl
      · by_cases hji : j = i
        · subst hji; rw [put_same, hpag]
        · rw [put_slot _ _ (by omega)]; exact nj j (by omega)
theorem x_num {u : Mem} {n H : Nat} {t kd f : Nat → Nat} (hb : BK u n H t kd) (hf : ∀ j, j < n → f j ≤ 2) (hgo : GO H t kd f n) (xs : XS u t f n) : ∃ u2, e_X1_numberPages u = some u2 ∧ (∀ k, k ≠ 9 → k ≠ 11 → u2 k = u k) ∧ u2 9 1 = nI (pgs kd f n) ∧ u2 9 2 = nI (bls kd f n) ∧ u2 9 3 = nI (trs f n) ∧ u2 9 4 = nI (rgf H t kd f n) ∧ ∀ j, j < n → u2 11 j = nI (pag kd f j) := by
  have h9 := hb.1
  have hb2 : BK (put (put (put (put u 9 1 (0 : Int32)) 9 2 (0 : Int32)) 9 3 (0 : Int32)) 9 4 (0 : Int32)) n H t kd := hb.kp (fun k hk => by rw [put_cell _ _ _ (by omega), put_cell _ _ _ (by omega), put_cell _ _ _ (by omega), put_cell _ _ _ (by omega)])
  obtain ⟨u2, e1, e2, e3, e4, e5, e6, e7⟩ := x_num_loop (u0 := u) hb hf hgo xs n 0 FU (put (put (put (put u 9 1 (0 : Int32)) 9 2 (0 : Int32)) 9 3 (0 : Int32)) 9 4 (0 : Int32)) (by omega) (by unfold FU; omega) (fun k h1 h2 => by rw [put_cell _ _ _ h1, put_cell _ _ _ h1, put_cell _ _ _ h1, put_cell _ _ _ h1]) ⟨by simp [put_get]; rfl, by simp [put_get]; rfl, by simp [put_get]; rfl, by simp [put_get]; rfl, fun j hj => by omega⟩
  refine ⟨u2, e1, e2, e3, e4, e5, ?_, e7⟩
  rw [e6]
  unfold rgf
  by_cases n0 : n = 0
  · subst n0; rfl
  · simp [n0]
