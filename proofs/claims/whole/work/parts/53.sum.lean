/-- one side of a page's end -/
theorem x_end1 {u : Mem} {n H be la k l rg dig : Nat} {t kd : Nat → Nat} {A : GS} (hb : BK u n H t kd) (hl : l < 2) (hbe : be ≤ la) (hn : la + 1 + k = n) (hrg : rg ≤ 900) (sl : SL u (2 * be + l) A) (hd : ∀ l, l < 2 → SL u (2 * (la + 1) + l) (DD H t kd k (la + 1) l)) (hA : A.1 ≤ 100000) (hA2 : A.2.1 ≤ 40 ∧ A.2.2.2.1 ≤ 40000 ∧ A.2.2.2.2 < 262144) (hdg : dig * 4 ^ k + 4 ^ k ≤ 262144) : ∃ u2, (∀ go, e_X3_endPage_L29_b go u (nI be) (nI la) (nI rg) (nI (dig * 4 ^ k)) (nI l) = go u2 (nI be) (nI la) (nI rg) (nI (dig * 4 ^ k)) (nI (l + 1))) ∧ SL u2 (2 * be + l) (jn A (sh (tkn kd be l) (blk kd l be * (H * H)) (dig * 4 ^ k) (sh 0 rg 0 (DD H t kd k (la + 1) ((l + tkn kd be l) % 2))))) ∧ ∀ k j, (k < 26 ∨ 30 < k ∨ j ≠ 2 * be + l) → u2 k j = u k j := by
  have h9 := hb.1
  have hH := hb.2.1
  have b11 := hb.2.2.2.1
  have ht6 : ∀ j, j < n → t j ≤ 6 := fun j hj => (hb.2.2.2.2 j hj).2.2.1.2
  have htk := tkn_le kd be l
  have hbh := blh_le kd l be hH.2
  have hm2 : (l + tkn kd be l) % 2 < 2 := Nat.mod_lt _ (by omega)
  obtain ⟨g1, g2, g3, g4⟩ := DD_b (kd := kd) hH.2 h9 ht6 k (la + 1) ((l + tkn kd be l) % 2) hn
  have g1' : (DD H t kd k (la + 1) ((l + tkn kd be l) % 2)).1 ≤ 19683 := Nat.le_trans g1 (p3_le (by omega))
  have sd := hd _ hm2
  obtain ⟨d1, d2, d3, d4, d5⟩ := id sd
  have yr : inb (nI (2 * (la + 1) + (l + tkn kd be l) % 2)) 20 = true := by rw [n_inb (by omega)]; simp; omega
  have hcb : dig * 4 ^ k + (DD H t kd k (la + 1) ((l + tkn kd be l) % 2)).2.2.2.2 < 262144 := by omega
  obtain ⟨u2, o1, o2, o3⟩ := x_offer (P' := tkn kd be l + (DD H t kd k (la + 1) ((l + tkn kd be l) % 2)).2.1) (R' := (blk kd l be * (H * H) + rg) + (DD H t kd k (la + 1) ((l + tkn kd be l) % 2)).2.2.2.1) (c' := dig * 4 ^ k + (DD H t kd k (la + 1) ((l + tkn kd be l) % 2)).2.2.2.2) (show 2 * be + l < 20 by omega) (show 2 * (la + 1) + (l + tkn kd be l) % 2 < 20 by omega) sl sd (by omega) (by omega) ⟨by omega, by omega, by omega⟩ (by omega) (by omega) (by omega)
  refine ⟨u2, fun go => ?_, ?_, o3⟩
  · have e53 : e_X3_endPage_L29_b go u (nI be) (nI la) (nI rg) (nI (dig * 4 ^ k)) (nI l) = e_X3_endPage_J53 go u (nI be) (nI la) (nI rg) (nI (dig * 4 ^ k)) (nI l) (nI (blk kd l be)) := by
      unfold e_X3_endPage_L29_b e_X3_endPage_J52
      rw [if_neg (by rw [n_l1, n_lt (by omega) (by omega)]; omega)]
      by_cases l0 : l = 0
      · subst l0
        rw [if_pos (show nI 0 = (0 : Int32) from rfl), x_lft hb (show be < n by omega), bnd_some]
        unfold blk
        by_cases kk : kd be = 2 ∨ kd be = 3
        · rw [if_pos kk, if_neg z1, if_pos ⟨kk, rfl⟩]; rfl
        · rw [if_neg kk, if_pos rfl, if_neg (fun h => kk h.1)]; rfl
      · rw [if_neg (by rw [n_l0, n_eq (by omega) (by omega)]; exact l0)]
        unfold blk
        rw [if_neg (by omega)]; rfl
    have e70 : e_X3_endPage_J53 go u (nI be) (nI la) (nI rg) (nI (dig * 4 ^ k)) (nI l) (nI (blk kd l be)) = e_X3_endPage_J70 go u (nI be) (nI la) (nI rg) (nI (dig * 4 ^ k)) (nI l) (nI (blk kd l be)) (nI (if kd be = 2 then 2 else 1)) (nI (blk kd l be)) := by
      unfold e_X3_endPage_J53
      rw [x_spr hb (show be < n by omega), bnd_some]
      by_cases kk : kd be = 2
      · rw [if_pos kk, if_neg z1, if_pos kk]; rfl
      · rw [if_neg kk, if_pos rfl, if_neg kk]; rfl
    rw [e53, e70]
    unfold e_X3_endPage_J70
    have ix : ((2 : Int32) * (nI la + 1)) + ((nI l + (nI (blk kd l be) + nI (if kd be = 2 then 2 else 1))) - (nI l + (nI (blk kd l be) + nI (if kd be = 2 then 2 else 1))) / (2 : Int32) * (2 : Int32)) = nI (2 * (la + 1) + (l + tkn kd be l) % 2) := by
      rw [n_add, n_add, show l + (blk kd l be + if kd be = 2 then 2 else 1) = l + tkn kd be l from rfl, m_mod2 (by omega), nI_1, n_l2, n_mul, n_add]
    have ep : nI (blk kd l be) + nI (if kd be = 2 then 2 else 1) = nI (tkn kd be l) := by rw [n_add]; rfl
    have es : (2 : Int32) * nI be + nI l = nI (2 * be + l) := by rw [n_l2, n_mul, n_add]
    have er : nI rg + nI (blk kd l be) * nI H * nI H = nI (blk kd l be * (H * H) + rg) := by rw [n_mul, n_mul, n_add, Nat.mul_assoc, Nat.add_comm]
    simp only [ix]
    rw [if_pos yr, if_pos yr, if_pos yr, n_cl (by omega), d2, d4, d5, es, ep, b11, er, n_add, n_add, n_or (by omega) (by
      have : dig * 1 ≤ dig * 4 ^ k := Nat.mul_le_mul_left _ (Nat.lt_of_le_of_lt (Nat.zero_le _) (c4_lt k 0))
      omega) g4 (by omega), o1, bnv_some, nI_1]
  · rw [jn_sh] at o2
    rw [sh_sh, Nat.add_zero, Nat.add_zero]
    exact o2
theorem x_end {u : Mem} {n H be la k dig : Nat} {t kd f : Nat → Nat} {A : Nat → GS} (hb : BK u n H t kd) (hbe : be ≤ la) (hn : la + 1 + k = n) (ax : AX 18 u t f la) (hh : kd la ≠ 2 → ha t f la + hg t f la ≤ H) (sl : ∀ l, l < 2 → SL u (2 * be + l) (A l)) (hd : ∀ l, l < 2 → SL u (2 * (la + 1) + l) (DD H t kd k (la + 1) l)) (hA : ∀ l, l < 2 → (A l).1 ≤ 100000 ∧ (A l).2.1 ≤ 40 ∧ (A l).2.2.2.1 ≤ 40000 ∧ (A l).2.2.2.2 < 262144) (hdg : dig * 4 ^ k + 4 ^ k ≤ 262144) : ∃ u2, e_X3_endPage u (nI be) (nI la) (nI dig) = some u2 ∧ (∀ l, l < 2 → SL u2 (2 * be + l) (jn (A l) (sh (tkn kd be l) (blk kd l be * (H * H)) (dig * 4 ^ k) (sh 0 (pe H t kd f la) 0 (DD H t kd k (la + 1) ((l + tkn kd be l) % 2)))))) ∧ ∀ k j, (k < 26 ∨ 30 < k ∨ (j ≠ 2 * be ∧ j ≠ 2 * be + 1)) → u2 k j = u k j := by
  have h9 := hb.1
  have hH := hb.2.1
  have ht6 : ∀ j, j < n → t j ≤ 6 := fun j hj => (hb.2.2.2.2 j hj).2.2.1.2
  have hpe := pe_b (f := f) (kd := kd) hH.2 h9 ht6 (show la < n by omega)
  obtain ⟨u1, a1, a2, a3⟩ := x_end1 (dig := dig) hb (show 0 < 2 by omega) hbe hn hpe (sl 0 (by omega)) hd (hA 0 (by omega)).1 (hA 0 (by omega)).2 hdg
  have hb1 : BK u1 n H t kd := hb.kp (fun k hk => funext fun j => a3 k j (by omega))
  obtain ⟨u2, b1, b2, b3⟩ := x_end1 (dig := dig) hb1 (show 1 < 2 by omega) hbe hn hpe ((sl 1 (by omega)).kp (fun k _ _ => a3 k _ (by omega))) (fun l hl => (hd l hl).kp (fun k _ _ => a3 k _ (by omega))) (hA 1 (by omega)).1 (hA 1 (by omega)).2 hdg
  refine ⟨u2, ?_, ?_, fun k j h => by rw [b3 k j (by omega), a3 k j (by omega)]⟩
  · unfold e_X3_endPage
    rw [xl_rag_P hb (show la < n by omega) ax hh, bnd_some, hb.2.2.1]
    have ek : (2 : Int32) * (nI n - 1 - nI la) = nI (2 * k) := by
      rw [n_l1, n_sub (by omega), n_sub (by omega), n_l2, n_mul, show n - 1 - la = k by omega]
    rw [ek, n_31 (by omega), n_shl (by omega), show FU = 99997 + 1 + 1 + 1 from rfl]
    show e_X3_endPage_L29_b _ _ _ _ _ _ (nI 0) = _
    rw [a1]
    show e_X3_endPage_L29_b _ _ _ _ _ _ (nI 1) = _
    rw [b1]
    show e_X3_endPage_L29_b _ _ _ _ _ _ (nI 2) = _
    unfold e_X3_endPage_L29_b
    rw [if_pos (by rw [n_l1, n_lt (by omega) (by omega)]; omega)]
  · intro l hl
    rcases (by omega : l = 0 ∨ l = 1) with e | e <;> subst e
    · exact a2.kp (fun k _ _ => b3 k _ (by omega))
    · exact b2
theorem tp_cong {f g : Nat → Nat} : ∀ {i : Nat}, (∀ j, j ≤ i → f j = g j) → tp f i = tp g i
  | 0, _ => rfl
  | i + 1, h => by
    unfold tp
    rw [h (i + 1) (by omega), tp_cong (i := i) (fun j hj => h j (by omega))]
theorem AX.cong {c : Nat} {u : Mem} {t f g : Nat → Nat} {i : Nat} (h : ∀ j, j ≤ i → f j = g j) (ax : AX c u t f i) : AX c u t g i := by
  obtain ⟨h1, h2, h3⟩ := loc (t := t) (p := 0) (Or.inl rfl) (Nat.zero_le i) (fun j _ hj => h j hj)
  have h4 : hg t f i = hg t g i := by unfold hg; rw [h1]
  have h5 : sg t f i = sg t g i := by unfold sg; rw [h4, h1]
  unfold AX pl gp at ax ⊢
  rw [← tp_cong h, ← h1, ← h2, ← h3, ← h4, ← h5]
  exact ax
def KG (be la : Nat) (u u2 : Mem) : Prop := ∀ k j, (k ≤ 18 ∨ 30 < k ∨ (k ≤ 25 ∧ j ≤ la) ∨ (26 ≤ k ∧ j ≠ 2 * be ∧ j ≠ 2 * be + 1)) → u2 k j = u k j
theorem CC_b {H n : Nat} {t kd : Nat → Nat} (hH : H ≤ 20) (hn : n ≤ 9) (ht : ∀ j, j < n → t j ≤ 6) (k b l d : Nat) (f : Nat → Nat) (hb : 1 ≤ b) (e : b + 1 + k = n) : (CC H t kd k b f l d).1 ≤ 3 ^ k ∧ ((CC H t kd k b f l d).2.1 ≤ 3 * k ∧ (CC H t kd k b f l d).2.2.2.1 ≤ 2000 * k + 1000 ∧ (CC H t kd k b f l d).2.2.2.2 < d * 4 ^ k + 4 ^ k) := by
  have g := GG_b (kd := kd) hH hn ht k (b + 1) l (uf f b d) (by omega) (by omega)
  have := c4_lt k 0
  unfold CC
  split
  · rw [sh_w]
    exact ⟨g.1, lq (sh_b g.2) (by omega) (by omega) (by omega)⟩
  · exact ⟨Nat.zero_le _, Nat.zero_le _, Nat.zero_le _, (by omega : 0 < d * 4 ^ k + 4 ^ k)⟩
theorem x_grow {n H be : Nat} {t kd : Nat → Nat} : ∀ (k la d : Nat) (u : Mem) (f : Nat → Nat) (dig : Nat) (A : Nat → GS), la + 1 + k = n → be ≤ la → k < d → BK u n H t kd → AX 18 u t f la → (kd la ≠ 2 → ha t f la + hg t f la ≤ H) → (∀ l, l < 2 → SL u (2 * be + l) (A l)) → (∀ i l, la < i → i ≤ n → l < 2 → SL u (2 * i + l) (DD H t kd (n - i) i l)) → (∀ l, l < 2 → (A l).1 + 3 ^ (k + 1) ≤ 100000 ∧ (A l).2.1 ≤ 40 ∧ (A l).2.2.2.1 ≤ 40000 ∧ (A l).2.2.2.2 < 262144) → dig * 4 ^ k + 4 ^ k ≤ 262144 → ∃ u2, e_X3_growPage d u (nI be) (nI la) (nI dig) = some u2 ∧ (∀ l, l < 2 → SL u2 (2 * be + l) (jn (A l) (sh (tkn kd be l) (blk kd l be * (H * H)) (dig * 4 ^ k) (GG H t kd k (la + 1) f ((l + tkn kd be l) % 2))))) ∧ KG be la u u2 := by
  intro k
  induction k with
  | zero =>
    intro la d u f dig A hn hbe hd hb ax hh sl ds hA hdg
    obtain ⟨d, rfl⟩ : ∃ z, d = z + 1 := ⟨d - 1, by omega⟩
    have h9 := hb.1
    obtain ⟨u1, e1, e2, e3⟩ := x_end (dig := dig) hb hbe hn ax hh sl (fun l hl => by have := ds (la + 1) l (by omega) (by omega) hl; rw [show n - (la + 1) = 0 by omega] at this; exact this) (fun l hl => ⟨by have := (hA l hl).1; omega, (hA l hl).2⟩) hdg
    refine ⟨u1, ?_, ?_, fun k j h => e3 k j (by omega)⟩
    · show e_X3_growPage_b _ _ _ _ _ = _
      unfold e_X3_growPage_b
      rw [e1, bnv_some, show u1 1 0 = nI n by rw [e3 1 0 (by omega)]; exact hb.2.2.1, nI_1, if_neg (by rw [n_lt (by omega) (by omega)]; omega)]
    · intro l hl
      have := e2 l hl
      exact this
  | succ k ih =>
    intro la d u f dig A hn hbe hd hb ax hh sl ds hA hdg
    obtain ⟨d, rfl⟩ : ∃ z, d = z + 1 := ⟨d - 1, by omega⟩
    have h9 := hb.1
    have hH := hb.2.1
    have ht6 : ∀ j, j < n → t j ≤ 6 := fun j hj => (hb.2.2.2.2 j hj).2.2.1.2
    have p3 : 3 ^ (k + 1) = 3 ^ k * 3 := Nat.pow_succ ..
    have p3' : 3 ^ (k + 1 + 1) = 3 ^ (k + 1) * 3 := Nat.pow_succ ..
    have p4 : 4 ^ (k + 1) = 4 ^ k * 4 := Nat.pow_succ ..
    obtain ⟨u1, e1, e2, e3⟩ := x_end (dig := dig) hb hbe hn ax hh sl (fun l hl => by have := ds (la + 1) l (by omega) (by omega) hl; rw [show n - (la + 1) = k + 1 by omega] at this; exact this) (fun l hl => ⟨by have := (hA l hl).1; omega, (hA l hl).2⟩) hdg
    -- one figure
    have one1 : ∀ (w : Mem) (dd : Nat) (C : Nat → GS), dd < 2 → KG be la u w → (∀ l, l < 2 → SL w (2 * be + l) (C l)) → (∀ l, l < 2 → (C l).1 + 3 ^ (k + 1) ≤ 100000 ∧ (C l).2.1 ≤ 40 ∧ (C l).2.2.2.1 ≤ 40000 ∧ (C l).2.2.2.2 < 262144) → ∃ w2, (∀ go, e_X3_growPage_L27_b (e_X3_growPage d) go w (nI be) (nI dig) (nI (la + 1)) (nI dd) = go w2 (nI be) (nI dig) (nI (la + 1)) (nI (dd + 1))) ∧ KG be la u w2 ∧ ∀ l, l < 2 → SL w2 (2 * be + l) (jn (C l) (sh (tkn kd be l) (blk kd l be * (H * H)) (dig * 4 ^ (k + 1)) (CC H t kd k (la + 1) f ((l + tkn kd be l) % 2) dd))) := by
      intro w dd C hdd kg sw hC
      have hbw : BK w n H t kd := hb.kp (fun k hk => funext fun j => kg k j (by omega))
      have axw : AX 18 w t (uf f (la + 1) dd) la := (ax.cong (fun j hj => (uf_o f (by omega)).symm)).kp (fun k h1 h2 => kg k la (by omega))
      have hwy := xl_why_P (f := uf f (la + 1) dd) hbw (show la + 1 < n by omega) (by rw [uf_s]; omega) (fun _ => axw)
      rw [uf_s] at hwy
      have hwl := wy_le H t kd (uf f (la + 1) dd) (la + 1)
      have e16 : ∀ go, e_X3_growPage_L27_b (e_X3_growPage d) go w (nI be) (nI dig) (nI (la + 1)) (nI dd) = if nI (wy H t kd (uf f (la + 1) dd) (la + 1)) = (0 : Int32) then bnv (e_X1_put_P w (nI (la + 1)) (nI dd)) (fun u3 => bnv (e_X3_growPage d u3 (nI be) (nI (la + 1)) ((nI dig <<< ((2 : Int32) &&& 31)) ||| nI dd)) (fun u4 => go u4 (nI be) (nI dig) (nI (la + 1)) (nI (dd + 1)))) else go w (nI be) (nI dig) (nI (la + 1)) (nI (dd + 1)) := by
        intro go
        unfold e_X3_growPage_L27_b e_X3_growPage_J75
        rw [if_neg (by rw [n_l1, n_lt (by omega) (by omega)]; omega), hwy, bnd_some, nI_1]
      by_cases q : wy H t kd (uf f (la + 1) dd) (la + 1) = 0
      · obtain ⟨w1, p1, -, p2, p3, p4⟩ := xl_put_P (f := uf f (la + 1) dd) hbw (show la + 1 < n by omega) (by rw [uf_s]; omega) (fun _ => axw) (fun _ => by omega)
        rw [uf_s] at p1
        have vp := VP.of (by rw [uf_s]; omega) q
        have kg1 : KG be la w w1 := fun k j h => by
          rcases (by omega : (k < 18 + 1 ∨ 18 + 7 < k) ∨ j ≠ la + 1) with h2 | h2
          · rw [p4 k h2]
          · exact p3 k j h2
        have hdd4 : (dig * 4 + dd) * 4 ^ k = dig * 4 ^ (k + 1) + dd * 4 ^ k := by rw [Nat.add_mul, Nat.mul_assoc, Nat.pow_succ, Nat.mul_comm 4 (4 ^ k)]
        have hm : dd * 4 ^ k ≤ 1 * 4 ^ k := Nat.mul_le_mul_right _ (by omega)
        obtain ⟨w2, i1, i2, i3⟩ := ih (la + 1) d w1 (uf f (la + 1) dd) (dig * 4 + dd) C (by omega) (by omega) (by omega) (hbw.kp (fun k hk => p4 k (by omega))) p2 vp.2.2 (fun l hl => (sw l hl).kp (fun k h1 h2 => by rw [p4 k (by omega)])) (fun i l h1 h2 h3 => (ds i l (by omega) h2 h3).kp (fun k h4 h5 => by rw [p4 k (by omega)]; exact kg k _ (by omega))) hC (by omega)
        refine ⟨w2, fun go => ?_, fun k j h => by rw [i3 k j (by omega), kg1 k j h, kg k j h], fun l hl => ?_⟩
        · have hs := n_shl (a := dig) (k := 1) (by omega)
          have hd9 : dig < 262144 := by
            have : dig * 1 ≤ dig * 4 ^ (k + 1) := Nat.mul_le_mul_left _ (Nat.lt_of_le_of_lt (Nat.zero_le _) (c4_lt (k + 1) 0))
            have := c4_lt (k + 1) 0
            omega
          have hs2 : nI dig <<< ((2 : Int32) &&& 31) = nI (dig * 4) := hs
          have ho := n_or (a := dig) (c := dd) (k := 1) (by omega) (by omega) (by omega) (by
            have : dig * 4 ≤ dig * 4 ^ (k + 1) := Nat.mul_le_mul_left _ (by rw [Nat.pow_succ]; have := c4_lt k 0; omega)
            omega)
          have ho2 : nI (dig * 4) ||| nI dd = nI (dig * 4 + dd) := ho
          rw [e16 go, if_pos (by rw [q]; rfl), p1, bnv_some, hs2, ho2, i1, bnv_some]
        · have := i2 l hl
          unfold CC
          rw [if_pos q, sh_sh, Nat.add_zero, Nat.add_zero, ← hdd4]
          exact this
      · refine ⟨w, fun go => ?_, kg, fun l hl => ?_⟩
        · rw [e16 go, if_neg (by rw [n_l0, n_eq (by omega) (by omega)]; exact q)]
        · unfold CC
          rw [if_neg q, sh_z rfl, jn_z]
          exact sw l hl
    have bE : ∀ l, l < 2 → (sh (tkn kd be l) (blk kd l be * (H * H)) (dig * 4 ^ (k + 1)) (sh 0 (pe H t kd f la) 0 (DD H t kd (k + 1) (la + 1) ((l + tkn kd be l) % 2)))).1 ≤ 3 ^ (k + 1) ∧ ((sh (tkn kd be l) (blk kd l be * (H * H)) (dig * 4 ^ (k + 1)) (sh 0 (pe H t kd f la) 0 (DD H t kd (k + 1) (la + 1) ((l + tkn kd be l) % 2)))).2.1 ≤ 40 ∧ (sh (tkn kd be l) (blk kd l be * (H * H)) (dig * 4 ^ (k + 1)) (sh 0 (pe H t kd f la) 0 (DD H t kd (k + 1) (la + 1) ((l + tkn kd be l) % 2)))).2.2.2.1 ≤ 40000 ∧ (sh (tkn kd be l) (blk kd l be * (H * H)) (dig * 4 ^ (k + 1)) (sh 0 (pe H t kd f la) 0 (DD H t kd (k + 1) (la + 1) ((l + tkn kd be l) % 2)))).2.2.2.2 < 262144) := by
      intro l hl
      have b1 := DD_b (kd := kd) hH.2 h9 ht6 (k + 1) (la + 1) ((l + tkn kd be l) % 2) (by omega)
      have b2 := pe_b (f := f) (kd := kd) hH.2 h9 ht6 (show la < n by omega)
      have b3 := tkn_le kd be l
      have b4 := blh_le kd l be hH.2
      refine ⟨by rw [sh_w, sh_w]; exact b1.1, lq (sh_b (sh_b b1.2)) (by omega) (by omega) (by omega)⟩
    have bC : ∀ dd l, dd < 2 → (sh (tkn kd be l) (blk kd l be * (H * H)) (dig * 4 ^ (k + 1)) (CC H t kd k (la + 1) f ((l + tkn kd be l) % 2) dd)).1 ≤ 3 ^ k ∧ ((sh (tkn kd be l) (blk kd l be * (H * H)) (dig * 4 ^ (k + 1)) (CC H t kd k (la + 1) f ((l + tkn kd be l) % 2) dd)).2.1 ≤ 40 ∧ (sh (tkn kd be l) (blk kd l be * (H * H)) (dig * 4 ^ (k + 1)) (CC H t kd k (la + 1) f ((l + tkn kd be l) % 2) dd)).2.2.2.1 ≤ 40000 ∧ (sh (tkn kd be l) (blk kd l be * (H * H)) (dig * 4 ^ (k + 1)) (CC H t kd k (la + 1) f ((l + tkn kd be l) % 2) dd)).2.2.2.2 < 262144) := by
      intro dd l hdd
      have b1 := CC_b (kd := kd) hH.2 h9 ht6 k (la + 1) ((l + tkn kd be l) % 2) dd f (by omega) (by omega)
      have b3 := tkn_le kd be l
      have b4 := blh_le kd l be hH.2
      have hm : dd * 4 ^ k ≤ 1 * 4 ^ k := Nat.mul_le_mul_right _ (by omega)
      refine ⟨by rw [sh_w]; exact b1.1, lq (sh_b b1.2) (by omega) (by omega) (by omega)⟩
    have kg1 : KG be la u u1 := fun k j h => e3 k j (by omega)
    obtain ⟨w1, f1, f2, f3⟩ := one1 u1 0 _ (by omega) kg1 e2 (fun l hl => ⟨by have := (hA l hl).1; have := (bE l hl).1; rw [jn_w]; omega, jn_b (hA l hl).2 (bE l hl).2⟩)
    obtain ⟨w2, g1, g2, g3⟩ := one1 w1 1 _ (by omega) f2 f3 (fun l hl => ⟨by have := (hA l hl).1; have := (bE l hl).1; have := (bC 0 l (by omega)).1; rw [jn_w, jn_w]; omega, jn_b (jn_b (hA l hl).2 (bE l hl).2) (bC 0 l (by omega)).2⟩)
    refine ⟨w2, ?_, ?_, g2⟩
    · show e_X3_growPage_b _ _ _ _ _ = _
      unfold e_X3_growPage_b
      rw [e1, bnv_some, show u1 1 0 = nI n by rw [e3 1 0 (by omega)]; exact hb.2.2.1, nI_1, if_pos (by rw [n_lt (by omega) (by omega)]; omega), show FU = 99997 + 1 + 1 + 1 from rfl]
      show e_X3_growPage_L27_b _ _ _ _ _ _ (nI 0) = _
      rw [f1]
      show e_X3_growPage_L27_b _ _ _ _ _ _ (nI 1) = _
      rw [g1]
      show e_X3_growPage_L27_b _ _ _ _ _ _ (nI 2) = _
      unfold e_X3_growPage_L27_b
      rw [if_pos (by rw [n_l1, n_lt (by omega) (by omega)]; omega)]
    · intro l hl
      have := g3 l hl
      rw [GG_s, sh_jn, sh_jn, jn_comm (jn_cn (sh_cn _ _ _ _) (sh_cn _ _ _ _)) (sh_cn _ _ _ _), ← jn_assoc, ← jn_assoc, show la + 1 - 1 = la by omega]
      exact this
