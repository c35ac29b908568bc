theorem loc {t f g : Nat → Nat} {p : Nat} (hp : p = 0 ∨ (f p = 2 ∧ g p = 2)) : ∀ {i : Nat}, p ≤ i → (∀ j, p ≤ j → j ≤ i → f j = g j) → bg f i = bg g i ∧ ha t f i = ha t g i ∧ cg t f i = cg t g i
  | 0, _, _ => ⟨rfl, rfl, rfl⟩
  | i + 1, hi, h => by
    have e := h (i + 1) hi (by omega)
    by_cases q : p ≤ i
    · obtain ⟨h1, h2, h3⟩ := loc hp (i := i) q (fun j a b => h j a (by omega))
      have h4 : hg t f i = hg t g i := by unfold hg; rw [h1]
      have h5 : sg t f i = sg t g i := by unfold sg; rw [h4, h1]
      unfold bg ha cg
      rw [e, h1, h2, h3, h4, h5]
      exact ⟨rfl, rfl, rfl⟩
    · have ep : p = i + 1 := by omega
      subst ep
      have e1 : f (i + 1) = 2 := by omega
      have e2 : g (i + 1) = 2 := by omega
      unfold bg ha cg
      rw [e1, e2]
      exact ⟨rfl, rfl, rfl⟩
theorem pe_loc {H : Nat} {t kd f g : Nat → Nat} {i : Nat} (h : bg f i = bg g i ∧ ha t f i = ha t g i ∧ cg t f i = cg t g i) : pe H t kd f i = pe H t kd g i := by
  obtain ⟨h1, h2, h3⟩ := h
  have h4 : hg t f i = hg t g i := by unfold hg; rw [h1]
  have h5 : sg t f i = sg t g i := by unfold sg; rw [h4, h1]
  unfold pe gp
  rw [h2, h3, h4, h5]
theorem wy_loc {H : Nat} {t kd f g : Nat → Nat} {b : Nat} (hb : 1 ≤ b) (e : f b = g b) (h : bg f (b - 1) = bg g (b - 1) ∧ ha t f (b - 1) = ha t g (b - 1) ∧ cg t f (b - 1) = cg t g (b - 1)) : wy H t kd f b = wy H t kd g b := by
  obtain ⟨h1, h2, h3⟩ := h
  have h4 : hg t f (b - 1) = hg t g (b - 1) := by unfold hg; rw [h1]
  unfold wy ph pl
  rw [e, h1, h2, h4]
theorem wy_cong {H : Nat} {t kd f g : Nat → Nat} {b : Nat} (h : ∀ j, j ≤ b → f j = g j) : wy H t kd f b = wy H t kd g b := by
  by_cases hb : 1 ≤ b
  · exact wy_loc hb (h b (by omega)) (loc (p := 0) (Or.inl rfl) (Nat.zero_le _) (fun j _ hj => h j (by omega)))
  · have e : b = 0 := by omega
    subst e
    have e0 := h 0 (by omega)
    unfold wy ph pl hg
    rw [e0]
    rfl
theorem pgs_cong {kd f g : Nat → Nat} : ∀ {b : Nat}, (∀ j, j < b → f j = g j) → pgs kd f b = pgs kd g b
  | 0, _ => rfl
  | b + 1, h => by
    have e := pgs_cong (kd := kd) (b := b) (fun j hj => h j (by omega))
    unfold pgs
    rw [h b (by omega), e]
theorem rgp_cong {H : Nat} {t kd f g : Nat → Nat} : ∀ {b : Nat}, (∀ j, j < b → f j = g j) → rgp H t kd f b = rgp H t kd g b
  | 0, _ => rfl
  | b + 1, h => by
    have e := rgp_cong (H := H) (t := t) (kd := kd) (b := b) (fun j hj => h j (by omega))
    have e2 := pgs_cong (kd := kd) (b := b) (fun j hj => h j (by omega))
    have e3 : (if b = 0 then 0 else pe H t kd f (b - 1)) = if b = 0 then 0 else pe H t kd g (b - 1) := by
      split
      · rfl
      · exact pe_loc (loc (p := 0) (Or.inl rfl) (Nat.zero_le _) (fun j _ hj => h j (by omega)))
    unfold rgp
    rw [h b (by omega), e, e2, e3]
def gb (H : Nat) (t kd f : Nat → Nat) : Nat → Bool
  | 0 => true
  | b + 1 => gb H t kd f b && decide (wy H t kd f b = 0)
theorem gb_iff {H : Nat} {t kd f : Nat → Nat} : ∀ {b : Nat}, gb H t kd f b = true ↔ GO H t kd f b
  | 0 => ⟨fun _ j hj => by omega, fun _ => rfl⟩
  | b + 1 => by
    have e := gb_iff (H := H) (t := t) (kd := kd) (f := f) (b := b)
    unfold gb
    rw [Bool.and_eq_true, decide_eq_true_iff, e]
    constructor
    · rintro ⟨h1, h2⟩ j hj
      by_cases q : j = b
      · subst q; exact h2
      · exact h1 j (by omega)
    · intro h
      exact ⟨fun j hj => h j (by omega), h b (by omega)⟩
theorem gb_cong {H : Nat} {t kd f g : Nat → Nat} : ∀ {b : Nat}, (∀ j, j < b → f j = g j) → gb H t kd f b = gb H t kd g b
  | 0, _ => rfl
  | b + 1, h => by
    unfold gb
    rw [gb_cong (b := b) (fun j hj => h j (by omega)), wy_cong (f := f) (g := g) (fun j hj => h j (by omega))]
/-- the figures in the class's notation -/
def c4 : Nat → Nat → Nat
  | 0, _ => 0
  | b + 1, q => c4 b (q / 3) * 4 + q % 3
theorem c4_up (b q d : Nat) (hd : d < 3) : c4 (b + 1) (q * 3 + d) = c4 b q * 4 + d := by
  show c4 b ((q * 3 + d) / 3) * 4 + (q * 3 + d) % 3 = _
  rw [show (q * 3 + d) / 3 = q by omega, show (q * 3 + d) % 3 = d by omega]
theorem c4_mono : ∀ {b x y : Nat}, x < y → y < 3 ^ b → c4 b x < c4 b y
  | 0, x, y, h1, h2 => by rw [Nat.pow_zero] at h2; omega
  | b + 1, x, y, h1, h2 => by
    rw [Nat.pow_succ] at h2
    show c4 b (x / 3) * 4 + x % 3 < c4 b (y / 3) * 4 + y % 3
    by_cases q : x / 3 < y / 3
    · have := c4_mono (b := b) q (by omega)
      omega
    · have e : x / 3 = y / 3 := by omega
      rw [e]
      omega
theorem c4_lt : ∀ (b x : Nat), c4 b x < 4 ^ b
  | 0, x => Nat.zero_lt_one
  | b + 1, x => by
    have := c4_lt b (x / 3)
    show c4 b (x / 3) * 4 + x % 3 < _
    rw [Nat.pow_succ]
    omega
theorem c4_dgs : ∀ (b x i : Nat), i < b → c4 b x / 4 ^ (b - 1 - i) % 4 = dgs 3 b x i
  | b + 1, x, i, h => by
    show (c4 b (x / 3) * 4 + x % 3) / 4 ^ (b + 1 - 1 - i) % 4 = x / 3 ^ (b + 1 - 1 - i) % 3
    by_cases e : i = b
    · subst e
      rw [show i + 1 - 1 - i = 0 by omega, Nat.pow_zero, Nat.div_one, Nat.div_one]
      omega
    · have ih := c4_dgs b (x / 3) i (by omega)
      unfold dgs at ih
      rw [show b + 1 - 1 - i = (b - 1 - i) + 1 by omega, Nat.pow_succ, Nat.pow_succ, Nat.mul_comm (4 ^ _) 4, Nat.mul_comm (3 ^ _) 3, ← Nat.div_div_eq_div_mul, ← Nat.div_div_eq_div_mul, show (c4 b (x / 3) * 4 + x % 3) / 4 = c4 b (x / 3) by omega]
      exact ih
/-! the sums of the class and of the reference -/
def one : GS := (1, 0, 1, 0, 0)
def tkn (kd : Nat → Nat) (b l : Nat) : Nat := blk kd l b + if kd b = 2 then 2 else 1
def uf (f : Nat → Nat) (b d : Nat) : Nat → Nat := fun j => if j = b then d else f j
theorem uf_s (f : Nat → Nat) (b d : Nat) : uf f b d b = d := by unfold uf; rw [if_pos rfl]
theorem uf_o (f : Nat → Nat) {b d j : Nat} (h : j ≠ b) : uf f b d j = f j := by unfold uf; rw [if_neg h]
def GG (H : Nat) (t kd : Nat → Nat) : Nat → Nat → (Nat → Nat) → Nat → GS
  | 0, b, f, l => sh 0 (pe H t kd f (b - 1)) 0 one
  | k + 1, b, f, l => jn (jn (if wy H t kd (uf f b 0) b = 0 then sh 0 0 (0 * 4 ^ k) (GG H t kd k (b + 1) (uf f b 0) l) else Zs) (if wy H t kd (uf f b 1) b = 0 then sh 0 0 (1 * 4 ^ k) (GG H t kd k (b + 1) (uf f b 1) l) else Zs)) (sh 0 (pe H t kd f (b - 1)) 0 (sh (tkn kd b l) (blk kd l b * (H * H)) (2 * 4 ^ k) (GG H t kd k (b + 1) (fun _ => 2) ((l + tkn kd b l) % 2))))
def DD (H : Nat) (t kd : Nat → Nat) : Nat → Nat → Nat → GS
  | 0, b, l => one
  | k + 1, b, l => sh (tkn kd b l) (blk kd l b * (H * H)) (2 * 4 ^ k) (GG H t kd k (b + 1) (fun _ => 2) ((l + tkn kd b l) % 2))
def CC (H : Nat) (t kd : Nat → Nat) (k b : Nat) (f : Nat → Nat) (l d : Nat) : GS := if wy H t kd (uf f b d) b = 0 then sh 0 0 (d * 4 ^ k) (GG H t kd k (b + 1) (uf f b d) l) else Zs
theorem GG_s (H : Nat) (t kd : Nat → Nat) (k b : Nat) (f : Nat → Nat) (l : Nat) : GG H t kd (k + 1) b f l = jn (jn (CC H t kd k b f l 0) (CC H t kd k b f l 1)) (sh 0 (pe H t kd f (b - 1)) 0 (DD H t kd (k + 1) b l)) := rfl
def TT (H : Nat) (t kd : Nat → Nat) : Nat → Nat → Nat → GS
  | 0, b, q => (1, pgs kd (dgs 3 b q) b, 1, rgf H t kd (dgs 3 b q) b, c4 b q)
  | k + 1, b, q => jn (jn (if wy H t kd (dgs 3 (b + 1) (q * 3 + 0)) b = 0 then TT H t kd k (b + 1) (q * 3 + 0) else Zs) (if wy H t kd (dgs 3 (b + 1) (q * 3 + 1)) b = 0 then TT H t kd k (b + 1) (q * 3 + 1) else Zs)) (if wy H t kd (dgs 3 (b + 1) (q * 3 + 2)) b = 0 then TT H t kd k (b + 1) (q * 3 + 2) else Zs)
theorem blk_m (kd : Nat → Nat) (p i : Nat) : blk kd (p % 2) i = blk kd p i := by
  unfold blk
  rw [Nat.mod_mod]
theorem wy_2 {H b : Nat} {t kd f : Nat → Nat} (h : f b = 2) (ht : t b ≤ H) : wy H t kd f b = 0 := by
  unfold wy ph
  rw [h]
  simp
  omega
theorem CC_cn (H : Nat) (t kd : Nat → Nat) (k b : Nat) (f : Nat → Nat) (l d : Nat) : CN (CC H t kd k b f l d) := by
  unfold CC
  split
  · exact sh_cn _ _ _ _
  · exact fun _ => rfl
theorem TT_GG {H n : Nat} {t kd : Nat → Nat} (ht : ∀ j, j < n → t j ≤ H) : ∀ (k b q p : Nat) (g : Nat → Nat), b + k = n → p < b → dgs 3 b q p = 2 → g p = 2 → (∀ j, p ≤ j → j < b → dgs 3 b q j = g j) → TT H t kd k b q = sh (pgs kd (dgs 3 b q) b) (rgp H t kd (dgs 3 b q) b) (c4 b q * 4 ^ k) (GG H t kd k b g (pgs kd (dgs 3 b q) b % 2))
  | 0, b, q, p, g, hn, hp, h1, h2, h3 => by
    have e := pe_loc (H := H) (kd := kd) (loc (t := t) (Or.inr ⟨h1, h2⟩) (show p ≤ b - 1 by omega) (fun j a c => h3 j a (by omega)))
    show _ = sh _ _ _ (sh 0 (pe H t kd g (b - 1)) 0 one)
    rw [← e, sh_sh, sh_n (show one.1 ≠ 0 by decide)]
    unfold TT rgf
    rw [if_neg (show ¬ b = 0 by omega), Nat.pow_zero, Nat.mul_one]
    rfl
  | k + 1, b, q, p, g, hn, hp, h1, h2, h3 => by
    have key : ∀ d, d < 2 → (if wy H t kd (dgs 3 (b + 1) (q * 3 + d)) b = 0 then TT H t kd k (b + 1) (q * 3 + d) else Zs) = sh (pgs kd (dgs 3 b q) b) (rgp H t kd (dgs 3 b q) b) (c4 b q * 4 ^ (k + 1)) (CC H t kd k b g (pgs kd (dgs 3 b q) b % 2) d) := by
      intro d hd
      have hu : ∀ j, j < b → dgs 3 (b + 1) (q * 3 + d) j = dgs 3 b q j := fun j hj => dgs_up 3 b q d j (by omega) hj
      have hl : dgs 3 (b + 1) (q * 3 + d) b = d := dgs_last 3 b q d (by omega)
      have ag : ∀ j, p ≤ j → j < b + 1 → dgs 3 (b + 1) (q * 3 + d) j = uf g b d j := fun j a c => by
        by_cases e : j = b
        · subst e; rw [hl, uf_s]
        · rw [hu j (by omega), uf_o _ e]; exact h3 j a (by omega)
      have u2 : uf g b d p = 2 := by rw [uf_o _ (by omega)]; exact h2
      have w2 : dgs 3 (b + 1) (q * 3 + d) p = 2 := by rw [hu p hp]; exact h1
      have ew : wy H t kd (dgs 3 (b + 1) (q * 3 + d)) b = wy H t kd (uf g b d) b := wy_loc (by omega) (ag b (by omega) (by omega)) (loc (Or.inr ⟨w2, u2⟩) (show p ≤ b - 1 by omega) (fun j a c => ag j a (by omega)))
      unfold CC
      rw [ew]
      by_cases q0 : wy H t kd (uf g b d) b = 0
      · rw [if_pos q0, if_pos q0, TT_GG ht k (b + 1) (q * 3 + d) p (uf g b d) (by omega) (by omega) w2 u2 ag, sh_sh]
        have e1 : pgs kd (dgs 3 (b + 1) (q * 3 + d)) (b + 1) = pgs kd (dgs 3 b q) b := by
          rw [← pgs_cong hu]
          show (if dgs 3 (b + 1) (q * 3 + d) b = 2 then _ else _) = _
          rw [hl, if_neg (by omega)]
        have e2 : rgp H t kd (dgs 3 (b + 1) (q * 3 + d)) (b + 1) = rgp H t kd (dgs 3 b q) b := by
          rw [← rgp_cong hu]
          show (if dgs 3 (b + 1) (q * 3 + d) b = 2 then _ else _) = _
          rw [hl, if_neg (by omega)]
        rw [e1, e2, c4_up b q d (by omega), Nat.add_mul, Nat.mul_assoc, Nat.pow_succ, Nat.mul_comm 4 (4 ^ k), Nat.add_zero (pgs kd (dgs 3 b q) b), Nat.add_zero (rgp H t kd (dgs 3 b q) b)]
      · rw [if_neg q0, if_neg q0, sh_z rfl]
    have k2 : (if wy H t kd (dgs 3 (b + 1) (q * 3 + 2)) b = 0 then TT H t kd k (b + 1) (q * 3 + 2) else Zs) = sh (pgs kd (dgs 3 b q) b) (rgp H t kd (dgs 3 b q) b) (c4 b q * 4 ^ (k + 1)) (sh 0 (pe H t kd g (b - 1)) 0 (DD H t kd (k + 1) b (pgs kd (dgs 3 b q) b % 2))) := by
      have hu : ∀ j, j < b → dgs 3 (b + 1) (q * 3 + 2) j = dgs 3 b q j := fun j hj => dgs_up 3 b q 2 j (by omega) hj
      have hl : dgs 3 (b + 1) (q * 3 + 2) b = 2 := dgs_last 3 b q 2 (by omega)
      rw [if_pos (wy_2 hl (ht b (by omega))), TT_GG ht k (b + 1) (q * 3 + 2) b (fun _ => 2) (by omega) (by omega) hl rfl (fun j a c => by
        have e : j = b := by omega
        subst e
        exact hl)]
      have e1 : pgs kd (dgs 3 (b + 1) (q * 3 + 2)) (b + 1) = pgs kd (dgs 3 b q) b + tkn kd b (pgs kd (dgs 3 b q) b % 2) := by
        rw [← pgs_cong hu]
        show (if dgs 3 (b + 1) (q * 3 + 2) b = 2 then _ else _) = _
        unfold tkn
        rw [hl, if_pos rfl, blk_m, Nat.add_assoc]
      have e2 : rgp H t kd (dgs 3 (b + 1) (q * 3 + 2)) (b + 1) = rgp H t kd (dgs 3 b q) b + (pe H t kd g (b - 1) + blk kd (pgs kd (dgs 3 b q) b % 2) b * (H * H)) := by
        have e := pe_loc (H := H) (kd := kd) (loc (t := t) (Or.inr ⟨h1, h2⟩) (show p ≤ b - 1 by omega) (fun j a c => h3 j a (by omega)))
        have e' := pe_loc (H := H) (kd := kd) (loc (t := t) (p := 0) (f := dgs 3 (b + 1) (q * 3 + 2)) (g := dgs 3 b q) (Or.inl rfl) (show 0 ≤ b - 1 by omega) (fun j a c => hu j (by omega)))
        show (if dgs 3 (b + 1) (q * 3 + 2) b = 2 then _ else _) = _
        rw [hl, if_pos rfl, if_neg (show ¬ b = 0 by omega), blk_m, rgp_cong hu, pgs_cong hu, e', e, Nat.add_assoc]
      show _ = sh _ _ _ (sh 0 _ 0 (sh _ _ _ _))
      rw [sh_sh, sh_sh, e1, e2, c4_up b q 2 (by omega), Nat.add_mul, Nat.mul_assoc, Nat.pow_succ, Nat.mul_comm 4 (4 ^ k), show (pgs kd (dgs 3 b q) b % 2 + tkn kd b (pgs kd (dgs 3 b q) b % 2)) % 2 = (pgs kd (dgs 3 b q) b + tkn kd b (pgs kd (dgs 3 b q) b % 2)) % 2 by omega]
      simp only [Nat.add_assoc, Nat.zero_add]
    rw [GG_s, sh_jn, sh_jn]
    show jn (jn _ _) _ = _
    rw [key 0 (by omega), key 1 (by omega), k2]
theorem TT_DD {H n : Nat} {t kd : Nat → Nat} (ht : ∀ j, j < n → t j ≤ H) : TT H t kd n 0 0 = DD H t kd n 0 0 := by
  cases n with
  | zero => rfl
  | succ k =>
    have hl : ∀ d, d < 3 → dgs 3 (0 + 1) (0 * 3 + d) 0 = d := fun d hd => dgs_last 3 0 0 d hd
    have hw : ∀ d, d < 2 → ¬ wy H t kd (dgs 3 (0 + 1) (0 * 3 + d)) 0 = 0 := fun d hd => by
      unfold wy
      rw [hl d (by omega), if_pos ⟨by omega, rfl⟩]
      decide
    have hz : (0 + 1 : Nat) + k = k + 1 := by omega
    have c2 := TT_GG (kd := kd) ht k (0 + 1) (0 * 3 + 2) 0 (fun _ => 2) hz (by omega) (hl 2 (by omega)) rfl (fun j a c => by
      have e : j = 0 := by omega
      subst e
      exact hl 2 (by omega))
    have e1 : pgs kd (dgs 3 (0 + 1) (0 * 3 + 2)) (0 + 1) = tkn kd 0 0 := by
      show (if dgs 3 (0 + 1) (0 * 3 + 2) 0 = 2 then 0 + blk kd 0 0 + _ else _) = _
      rw [hl 2 (by omega), if_pos rfl, Nat.zero_add]
      rfl
    have e2 : rgp H t kd (dgs 3 (0 + 1) (0 * 3 + 2)) (0 + 1) = blk kd 0 0 * (H * H) := by
      show (if dgs 3 (0 + 1) (0 * 3 + 2) 0 = 2 then 0 + 0 + blk kd 0 0 * (H * H) else _) = _
      rw [hl 2 (by omega), if_pos rfl]
      omega
    show jn (jn (if wy H t kd (dgs 3 (0 + 1) (0 * 3 + 0)) 0 = 0 then _ else _) (if wy H t kd (dgs 3 (0 + 1) (0 * 3 + 1)) 0 = 0 then _ else _)) (if wy H t kd (dgs 3 (0 + 1) (0 * 3 + 2)) 0 = 0 then TT H t kd k (0 + 1) (0 * 3 + 2) else _) = _
    rw [if_neg (hw 0 (by omega)), if_neg (hw 1 (by omega)), if_pos (wy_2 (hl 2 (by omega)) (ht 0 (by omega))), c2, e1, e2, jn_z, z_jn (sh_cn _ _ _ _)]
    show _ = sh (tkn kd 0 0) (blk kd 0 0 * (H * H)) (2 * 4 ^ k) (GG H t kd k (0 + 1) (fun _ => 2) ((0 + tkn kd 0 0) % 2))
    rw [Nat.zero_add (tkn kd 0 0)]
    rfl
def FL (H : Nat) (t kd : Nat → Nat) (n num : Nat) (A : GS) : GS := if gb H t kd (dgs 3 n num) n = true then jn A (1, pgs kd (dgs 3 n num) n, 1, rgf H t kd (dgs 3 n num) n, c4 n num) else A
theorem gb_suc {H : Nat} {t kd : Nat → Nat} {i q d : Nat} (hd : d < 3) : gb H t kd (dgs 3 (i + 1) (q * 3 + d)) (i + 1) = (gb H t kd (dgs 3 i q) i && decide (wy H t kd (dgs 3 (i + 1) (q * 3 + d)) i = 0)) := by
  show (gb H t kd (dgs 3 (i + 1) (q * 3 + d)) i && _) = _
  rw [gb_cong (g := dgs 3 i q) (fun j hj => dgs_up 3 i q d j hd hj)]
theorem treeL {H n : Nat} {t kd : Nat → Nat} : ∀ (k i q : Nat) (A : GS), i + k = n → rf (FL H t kd n) (q * 3 ^ k) (3 ^ k) A = if gb H t kd (dgs 3 i q) i = true then jn A (TT H t kd k i q) else A
  | 0, i, q, A, h => by
    have e : i = n := by omega
    subst e
    rw [Nat.pow_zero, Nat.mul_one]
    rfl
  | k + 1, i, q, A, h => by
    have hb := rf_blk (FL H t kd n) q 3 (3 ^ k) 3 A
    rw [show 3 ^ (k + 1) = 3 * 3 ^ k by rw [Nat.pow_succ, Nat.mul_comm], ← Nat.mul_assoc, hb]
    have st : ∀ d, d < 3 → ∀ s : GS, rf (FL H t kd n) ((q * 3 + (0 + d)) * 3 ^ k) (3 ^ k) s = if gb H t kd (dgs 3 i q) i = true then jn s (if wy H t kd (dgs 3 (i + 1) (q * 3 + d)) i = 0 then TT H t kd k (i + 1) (q * 3 + d) else Zs) else s := by
      intro d hd s
      rw [treeL k (i + 1) (q * 3 + (0 + d)) s (by omega), Nat.zero_add, gb_suc hd]
      cases gb H t kd (dgs 3 i q) i
      · rfl
      · rw [Bool.true_and, if_pos rfl]
        by_cases w : wy H t kd (dgs 3 (i + 1) (q * 3 + d)) i = 0
        · rw [if_pos w, if_pos (by rw [decide_eq_true_iff]; exact w)]
        · rw [if_neg w, if_neg (by rw [decide_eq_true_iff]; exact w), jn_z]
    show rf (FL H t kd n) ((q * 3 + (0 + 2)) * 3 ^ k) (3 ^ k) (rf (FL H t kd n) ((q * 3 + (0 + 1)) * 3 ^ k) (3 ^ k) (rf (FL H t kd n) ((q * 3 + (0 + 0)) * 3 ^ k) (3 ^ k) A)) = _
    rw [st 0 (by omega), st 1 (by omega), st 2 (by omega)]
    by_cases g : gb H t kd (dgs 3 i q) i = true
    · simp only [if_pos g]
      rw [jn_assoc, jn_assoc, ← jn_assoc (if wy H t kd (dgs 3 (i + 1) (q * 3 + 0)) i = 0 then _ else _)]
      rfl
    · simp only [if_neg g]
/-! how great they can be -/
theorem sh_b {p r c p0 r0 c0 : Nat} {A : GS} (h : A.2.1 ≤ p0 ∧ A.2.2.2.1 ≤ r0 ∧ A.2.2.2.2 < c0) : (sh p r c A).2.1 ≤ p + p0 ∧ (sh p r c A).2.2.2.1 ≤ r + r0 ∧ (sh p r c A).2.2.2.2 < c + c0 := by
  unfold sh
  split
  · exact ⟨Nat.zero_le _, Nat.zero_le _, (by omega : 0 < c + c0)⟩
  · obtain ⟨h1, h2, h3⟩ := h
    exact ⟨(by omega : p + A.2.1 ≤ _), (by omega : r + A.2.2.2.1 ≤ _), (by omega : c + A.2.2.2.2 < _)⟩
theorem lq {a b c a2 b2 c2 : Nat} {A : GS} (h : A.2.1 ≤ a ∧ A.2.2.2.1 ≤ b ∧ A.2.2.2.2 < c) (h1 : a ≤ a2) (h2 : b ≤ b2) (h3 : c ≤ c2) : A.2.1 ≤ a2 ∧ A.2.2.2.1 ≤ b2 ∧ A.2.2.2.2 < c2 := ⟨by omega, by omega, by omega⟩
theorem pe_b {H n i : Nat} {t kd f : Nat → Nat} (hH : H ≤ 20) (hn : n ≤ 9) (ht : ∀ j, j < n → t j ≤ 6) (hi : i < n) : pe H t kd f i ≤ 900 := by
  unfold pe
  split
  · omega
  · have h1 := gp_le (f := f) (i := i) (fun j hj => ht j (by omega))
    have h2 : 6 * (i + 1) * (i + 1) ≤ 54 * 9 := Nat.mul_le_mul (by omega) (by omega)
    have h3 : (H - (ha t f i + hg t f i)) * (H - (ha t f i + hg t f i)) ≤ 20 * 20 := Nat.mul_le_mul (by omega) (by omega)
    omega
theorem tkn_le (kd : Nat → Nat) (b l : Nat) : tkn kd b l ≤ 3 := by
  unfold tkn
  have := blk_le kd l b
  split <;> omega
theorem blh_le {H : Nat} (kd : Nat → Nat) (l b : Nat) (hH : H ≤ 20) : blk kd l b * (H * H) ≤ 400 := by
  have h1 : H * H ≤ 20 * 20 := Nat.mul_le_mul hH hH
  have h2 : blk kd l b * (H * H) ≤ 1 * (20 * 20) := Nat.mul_le_mul (blk_le kd l b) h1
  omega
theorem GG_b {H n : Nat} {t kd : Nat → Nat} (hH : H ≤ 20) (hn : n ≤ 9) (ht : ∀ j, j < n → t j ≤ 6) : ∀ (k b l : Nat) (f : Nat → Nat), 1 ≤ b → b + k = n → (GG H t kd k b f l).1 ≤ 3 ^ k ∧ ((GG H t kd k b f l).2.1 ≤ 3 * k ∧ (GG H t kd k b f l).2.2.2.1 ≤ 2000 * k + 1000 ∧ (GG H t kd k b f l).2.2.2.2 < 4 ^ k)
  | 0, b, l, f, hb, e => by
    have h1 := pe_b (f := f) (kd := kd) hH hn ht (show b - 1 < n by omega)
    show (sh _ _ _ one).1 ≤ _ ∧ (sh _ _ _ one).2.1 ≤ _ ∧ (sh _ _ _ one).2.2.2.1 ≤ _ ∧ (sh _ _ _ one).2.2.2.2 < _
    rw [sh_w]
    refine ⟨by decide, lq (sh_b (p0 := 0) (r0 := 0) (c0 := 1) (A := one) ⟨by decide, by decide, by decide⟩) (by omega) (by omega) (by decide)⟩
  | k + 1, b, l, f, hb, e => by
    have h1 := pe_b (f := f) (kd := kd) hH hn ht (show b - 1 < n by omega)
    have h2 := tkn_le kd b l
    have h3 := blh_le kd l b hH
    have p3 : 3 ^ (k + 1) = 3 ^ k * 3 := Nat.pow_succ ..
    have p4 : 4 ^ (k + 1) = 4 ^ k * 4 := Nat.pow_succ ..
    have g2 := GG_b (kd := kd) hH hn ht k (b + 1) ((l + tkn kd b l) % 2) (fun _ => 2) (by omega) (by omega)
    have gc : ∀ d, d < 2 → (CC H t kd k b f l d).1 ≤ 3 ^ k ∧ ((CC H t kd k b f l d).2.1 ≤ 3 * (k + 1) ∧ (CC H t kd k b f l d).2.2.2.1 ≤ 2000 * (k + 1) + 1000 ∧ (CC H t kd k b f l d).2.2.2.2 < 4 ^ (k + 1)) := by
      intro d hd
      have g := GG_b (kd := kd) hH hn ht k (b + 1) l (uf f b d) (by omega) (by omega)
      have hm : d * 4 ^ k ≤ 1 * 4 ^ k := Nat.mul_le_mul_right _ (by omega)
      unfold CC
      split
      · rw [sh_w]
        exact ⟨g.1, lq (sh_b g.2) (by omega) (by omega) (by omega)⟩
      · exact ⟨Nat.zero_le _, Nat.zero_le _, Nat.zero_le _, Nat.lt_of_le_of_lt (Nat.zero_le _) (c4_lt (k + 1) 0)⟩
    rw [GG_s]
    refine ⟨?_, jn_b (jn_b (gc 0 (by omega)).2 (gc 1 (by omega)).2) ?_⟩
    · rw [jn_w, jn_w, sh_w]
      have a0 := (gc 0 (by omega)).1
      have a1 := (gc 1 (by omega)).1
      show _ + (sh _ _ _ _).1 ≤ _
      rw [sh_w]
      have a2 := g2.1
      omega
    · exact lq (sh_b (sh_b g2.2)) (by omega) (by omega) (by omega)
theorem DD_b {H n : Nat} {t kd : Nat → Nat} (hH : H ≤ 20) (hn : n ≤ 9) (ht : ∀ j, j < n → t j ≤ 6) (k b l : Nat) (e : b + k = n) : (DD H t kd k b l).1 ≤ 3 ^ k ∧ ((DD H t kd k b l).2.1 ≤ 3 * k ∧ (DD H t kd k b l).2.2.2.1 ≤ 2000 * k ∧ (DD H t kd k b l).2.2.2.2 < 4 ^ k) := by
  cases k with
  | zero => exact ⟨Nat.le_refl 1, Nat.le_refl 0, Nat.le_refl 0, Nat.zero_lt_one⟩
  | succ k =>
    have h2 := tkn_le kd b l
    have h3 := blh_le kd l b hH
    have p3 : 3 ^ (k + 1) = 3 ^ k * 3 := Nat.pow_succ ..
    have p4 : 4 ^ (k + 1) = 4 ^ k * 4 := Nat.pow_succ ..
    have g2 := GG_b (kd := kd) hH hn ht k (b + 1) ((l + tkn kd b l) % 2) (fun _ => 2) (by omega) (by omega)
    show (sh _ _ _ _).1 ≤ _ ∧ _
    rw [sh_w]
    exact ⟨by omega, lq (sh_b g2.2) (by omega) (by omega) (by omega)⟩
theorem DD_cn (H : Nat) (t kd : Nat → Nat) (k b l : Nat) : CN (DD H t kd k b l) := by
  cases k with
  | zero => exact fun h => absurd (show one.1 = 0 from h) (by decide)
  | succ k => exact sh_cn _ _ _ _
