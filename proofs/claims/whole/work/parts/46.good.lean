/-! a run over numbers, and the tree of their figures -/
def rf {α : Type} (F : Nat → α → α) (a : Nat) : Nat → α → α
  | 0, s => s
  | n + 1, s => F (a + n) (rf F a n s)
theorem rf_cong {α : Type} {F G : Nat → α → α} {a b : Nat} : ∀ {n : Nat} {s : α}, (∀ j, j < n → ∀ s, F (a + j) s = G (b + j) s) → rf F a n s = rf G b n s
  | 0, _, _ => rfl
  | n + 1, s, h => by
    show F (a + n) (rf F a n s) = G (b + n) (rf G b n s)
    rw [rf_cong (n := n) (fun j hj => h j (by omega)), h n (by omega)]
theorem rf_app {α : Type} (F : Nat → α → α) (a m : Nat) : ∀ (n : Nat) (s : α), rf F a (m + n) s = rf F (a + m) n (rf F a m s)
  | 0, s => rfl
  | n + 1, s => by
    show F (a + (m + n)) (rf F a (m + n) s) = F (a + m + n) (rf F (a + m) n (rf F a m s))
    rw [rf_app F a m n s, Nat.add_assoc]
theorem rf_id {α : Type} {F : Nat → α → α} {a : Nat} : ∀ {n : Nat} {s : α}, (∀ j, j < n → ∀ s, F (a + j) s = s) → rf F a n s = s
  | 0, _, _ => rfl
  | n + 1, s, h => by
    show F (a + n) (rf F a n s) = s
    rw [rf_id (n := n) (fun j hj => h j (by omega)), h n (by omega)]
theorem rf_blk {α : Type} (F : Nat → α → α) (q Q K : Nat) : ∀ (d : Nat) (s : α), rf F (q * Q * K) (d * K) s = rf (fun e s => rf F ((q * Q + e) * K) K s) 0 d s
  | 0, s => by rw [Nat.zero_mul]; rfl
  | d + 1, s => by
    rw [Nat.succ_mul, rf_app, rf_blk F q Q K d s]
    show _ = rf F ((q * Q + (0 + d)) * K) K (rf (fun e s => rf F ((q * Q + e) * K) K s) 0 d s)
    rw [Nat.zero_add, Nat.add_mul]
/-- the figures of a number of i digits -/
def dgs (Q i q : Nat) : Nat → Nat := fun j => q / Q ^ (i - 1 - j) % Q
theorem dgs_last (Q i q d : Nat) (hd : d < Q) : dgs Q (i + 1) (q * Q + d) i = d := by
  unfold dgs
  rw [show i + 1 - 1 - i = 0 by omega, Nat.pow_zero, Nat.div_one, Nat.mul_comm, Nat.mul_add_mod, Nat.mod_eq_of_lt hd]
theorem dgs_up (Q i q d j : Nat) (hd : d < Q) (hj : j < i) : dgs Q (i + 1) (q * Q + d) j = dgs Q i q j := by
  unfold dgs
  have e : i + 1 - 1 - j = (i - 1 - j) + 1 := by omega
  rw [e, Nat.pow_succ, Nat.mul_comm (Q ^ (i - 1 - j)) Q, ← Nat.div_div_eq_div_mul]
  have : (q * Q + d) / Q = q := by
    rw [Nat.mul_comm, Nat.mul_add_div (by omega), Nat.div_eq_of_lt hd, Nat.add_zero]
  rw [this]
/-- what is known of the good settings so far: how many, the least deep, how many of these, the first of these -/
abbrev GA : Type := Nat × Nat × Nat × Nat
def dpn (b q : Nat) : Nat := if b = 0 then 0 else q % 12 / 4 + 1
def stp (b q : Nat) (A : GA) : GA := if A.1 = 0 ∨ dpn b q < A.2.1 then (A.1 + 1, dpn b q, 1, q) else if dpn b q = A.2.1 then (A.1 + 1, A.2.1, A.2.2.1 + 1, A.2.2.2) else (A.1 + 1, A.2.1, A.2.2.1, A.2.2.2)
def FM (sp : Nat → Nat) (b num : Nat) (A : GA) : GA := if gdB sp (dgs 12 b num) b = true then stp b num A else A
def TX (sp : Nat → Nat) (b : Nat) : Nat → Nat → GA → GA
  | 0, q, A => stp b q A
  | k + 1, q, A => rf (fun d A => if fitB sp (dgs 12 (b - k) (q * 12 + d)) (b - (k + 1)) = true then TX sp b k (q * 12 + d) A else A) 0 12 A
theorem fitB_cong {sp c c2 : Nat → Nat} {j : Nat} (h : ∀ a, a ≤ j → c a = c2 a) : fitB sp c j = fitB sp c2 j := by
  have h1 : beh c j = beh c2 j := by unfold beh; rw [h j (by omega), h (j - 1) (by omega)]
  have h2 : nea sp c j = nea sp c2 j := by unfold nea; rw [h j (by omega)]
  have h3 : allB (okA sp c j) 0 j = allB (okA sp c2 j) 0 j := by
    rw [Bool.eq_iff_iff, allB_iff, allB_iff]
    constructor
    · intro q a h1 h2
      have := q a h1 h2
      unfold okA at this ⊢
      rw [← h a (by omega), ← h j (by omega)]; exact this
    · intro q a h1 h2
      have := q a h1 h2
      unfold okA at this ⊢
      rw [h a (by omega), h j (by omega)]; exact this
  unfold fitB
  rw [h1, h2, h3]
theorem gdB_suc {sp : Nat → Nat} {i q d : Nat} (hd : d < 12) : gdB sp (dgs 12 (i + 1) (q * 12 + d)) (i + 1) = (gdB sp (dgs 12 i q) i && fitB sp (dgs 12 (i + 1) (q * 12 + d)) i) := by
  rw [Bool.eq_iff_iff, Bool.and_eq_true]
  unfold gdB
  rw [allB_iff, allB_iff]
  constructor
  · intro h
    refine ⟨fun j h1 h2 => ?_, h i (by omega) (by omega)⟩
    rw [← fitB_cong (c := dgs 12 (i + 1) (q * 12 + d)) (fun a ha => dgs_up 12 i q d a hd (by omega))]
    exact h j h1 (by omega)
  · rintro ⟨h1, h2⟩ j h3 h4
    by_cases e : j = i
    · subst e; exact h2
    · rw [fitB_cong (c2 := dgs 12 i q) (fun a ha => dgs_up 12 i q d a hd (by omega))]
      exact h1 j h3 (by omega)
theorem tree {sp : Nat → Nat} {b : Nat} : ∀ (k i q : Nat) (A : GA), i + k = b → rf (FM sp b) (q * 12 ^ k) (12 ^ k) A = if gdB sp (dgs 12 i q) i = true then TX sp b k q A else A
  | 0, i, q, A, h => by
    have e : i = b := by omega
    subst e
    rw [Nat.pow_zero, Nat.mul_one]
    rfl
  | k + 1, i, q, A, h => by
    have hb := rf_blk (FM sp b) q 12 (12 ^ k) 12 A
    rw [show 12 ^ (k + 1) = 12 * 12 ^ k by rw [Nat.pow_succ, Nat.mul_comm], ← Nat.mul_assoc, hb]
    by_cases g : gdB sp (dgs 12 i q) i = true
    · rw [if_pos g]
      show _ = rf (fun d A => if fitB sp (dgs 12 (b - k) (q * 12 + d)) (b - (k + 1)) = true then TX sp b k (q * 12 + d) A else A) 0 12 A
      refine rf_cong (fun d hd s => ?_)
      rw [tree k (i + 1) (q * 12 + (0 + d)) s (by omega), Nat.zero_add, gdB_suc hd, g, Bool.true_and, show b - k = i + 1 by omega, show b - (k + 1) = i by omega]
    · rw [if_neg g]
      refine rf_id (fun d hd s => ?_)
      rw [tree k (i + 1) (q * 12 + (0 + d)) s (by omega), Nat.zero_add, gdB_suc hd, if_neg]
      intro q2
      rw [Bool.and_eq_true] at q2
      exact g q2.1
theorem stp_w (b q : Nat) (A : GA) : (stp b q A).1 = A.1 + 1 := by
  unfold stp
  split
  · rfl
  · split <;> rfl
theorem rf_w {F : Nat → GA → GA} {K a : Nat} : ∀ {n : Nat} {A : GA}, (∀ j, j < n → ∀ s, (F (a + j) s).1 ≤ s.1 + K) → (rf F a n A).1 ≤ A.1 + n * K
  | 0, A, _ => by show A.1 ≤ _; omega
  | n + 1, A, h => by
    have h1 := rf_w (n := n) (A := A) (fun j hj => h j (by omega))
    have h2 := h n (by omega) (rf F a n A)
    show (F (a + n) (rf F a n A)).1 ≤ _
    rw [Nat.succ_mul]
    omega
theorem TX_w {sp : Nat → Nat} {b : Nat} : ∀ (k q : Nat) (A : GA), (TX sp b k q A).1 ≤ A.1 + 12 ^ k
  | 0, q, A => by show (stp b q A).1 ≤ _; rw [stp_w, Nat.pow_zero]; omega
  | k + 1, q, A => by
    have := rf_w (F := fun d A => if fitB sp (dgs 12 (b - k) (q * 12 + d)) (b - (k + 1)) = true then TX sp b k (q * 12 + d) A else A) (K := 12 ^ k) (a := 0) (n := 12) (A := A) (fun j hj s => by
      show (if _ then _ else _ : GA).1 ≤ _
      split
      · exact TX_w k _ s
      · exact Nat.le_add_right _ _)
    rw [Nat.pow_succ, Nat.mul_comm]
    exact this
/-- what the class's memory says of it -/
def GX (u : Mem) (b : Nat) (A : GA) : Prop := u 31 2 = nI A.1 ∧ (A.1 ≠ 0 → u 31 3 = nI A.2.1 ∧ u 31 4 = nI A.2.2.1 ∧ A.2.1 ≤ 3 ∧ (∀ j, j < b → u 33 j = nI (dgs 12 b A.2.2.2 j)))
theorem dpn_le (b q : Nat) : dpn b q ≤ 3 := by unfold dpn; split <;> omega
theorem x_keep {u : Mem} {b q : Nat} {A : GA} (hb : b ≤ 4) (hc : CX4 u (dgs 12 b q) b) (hg : GX u b A) (hw : A.1 < 1000000) : ∃ u2, e_X4_keep u (nI b) = some u2 ∧ GX u2 b (stp b q A) ∧ (∀ k, k ≠ 31 → k ≠ 33 → u2 k = u k) := by
  have hd3 := dpn_le b q
  have j71 : ∀ (w : Mem) (k : Nat), w 31 3 = nI (dpn b q) → w 31 4 = nI k → ∃ u2, e_X4_keep_J71 w (nI (dpn b q)) = some u2 ∧ u2 31 2 = w 31 2 ∧ u2 31 3 = nI (dpn b q) ∧ u2 31 4 = nI (k + 1) ∧ ∀ z, z ≠ 31 → u2 z = w z := by
    intro w k w3 w4
    unfold e_X4_keep_J71
    rw [w3, if_pos rfl, w4, nI_1]
    exact ⟨_, rfl, by rw [put_slot _ _ (by omega)], by rw [put_slot _ _ (by omega)]; exact w3, by rw [put_same], fun z hz => by rw [put_cell _ _ _ hz]⟩
  have j20 : ∃ u2, e_X4_keep_J20 u (nI b) (nI (dpn b q)) = some u2 ∧ GX u2 b (stp b q A) ∧ (∀ k, k ≠ 31 → k ≠ 33 → u2 k = u k) := by
    have j47 : (A.1 = 0 ∨ dpn b q < A.2.1) → ∃ u2, e_X4_keep_J47 (put u 31 2 (nI (A.1 + 1))) (nI b) (nI (dpn b q)) = some u2 ∧ GX u2 b (stp b q A) ∧ (∀ k, k ≠ 31 → k ≠ 33 → u2 k = u k) := by
      intro hA
      unfold e_X4_keep_J47
      rw [if_pos (by rw [n_cl (by omega), i_nI (by omega)]; simp; omega), n_cl (by omega)]
      obtain ⟨u2, e1, e2, e3, e4, e5⟩ := j71 (cpy (put (put (put u 31 2 (nI (A.1 + 1))) 31 3 (nI (dpn b q))) 31 4 0) 32 33 b) 0 (by rw [cpy_cell _ (by omega), put_slot _ _ (by omega), put_same]) (by rw [cpy_cell _ (by omega), put_same]; rfl)
      refine ⟨u2, e1, ?_, fun k h1 h3 => ?_⟩
      · unfold stp
        rw [if_pos hA]
        refine ⟨?_, fun _ => ⟨e3, e4, hd3, fun j hj => ?_⟩⟩
        · rw [e2, cpy_cell _ (by omega), put_slot _ _ (by omega), put_slot _ _ (by omega), put_same]
        · rw [e5 33 (by omega), cpy_in _ hj, put_cell _ _ _ (by omega), put_cell _ _ _ (by omega), put_cell _ _ _ (by omega)]; exact (hc j hj).1
      · rw [e5 k h1, cpy_cell _ h3, put_cell _ _ _ h1, put_cell _ _ _ h1, put_cell _ _ _ h1]
    unfold e_X4_keep_J20
    rw [hg.1, nI_1]
    by_cases w0 : A.1 = 0
    · rw [if_pos (by rw [w0]; rfl)]
      exact j47 (Or.inl w0)
    · obtain ⟨a3, a4, a5, a6⟩ := hg.2 w0
      rw [if_neg (by rw [n_l1, n_eq (by omega) (by omega)]; omega), a3]
      by_cases hlt : dpn b q < A.2.1
      · rw [if_neg (by rw [n_le (by omega) (by omega)]; omega)]
        exact j47 (Or.inr hlt)
      · rw [if_pos (by rw [n_le (by omega) (by omega)]; omega)]
        unfold stp
        rw [if_neg (by omega)]
        by_cases heq : dpn b q = A.2.1
        · rw [if_pos heq]
          obtain ⟨u2, e1, e2, e3, e4, e5⟩ := j71 (put u 31 2 (nI (A.1 + 1))) A.2.2.1 (by rw [put_slot _ _ (by omega), a3, heq]) (by rw [put_slot _ _ (by omega)]; exact a4)
          refine ⟨u2, e1, ⟨by rw [e2, put_same], fun _ => ⟨by rw [e3, heq], e4, a5, fun j hj => ?_⟩⟩, fun k h1 h3 => by rw [e5 k h1, put_cell _ _ _ h1]⟩
          rw [e5 33 (by omega), put_cell _ _ _ (by omega)]; exact a6 j hj
        · rw [if_neg heq]
          unfold e_X4_keep_J71
          rw [put_slot _ _ (by omega), a3, if_neg (by rw [n_eq (by omega) (by omega)]; exact heq)]
          refine ⟨_, rfl, ⟨by rw [put_same], fun _ => ⟨by rw [put_slot _ _ (by omega)]; exact a3, by rw [put_slot _ _ (by omega)]; exact a4, a5, fun j hj => ?_⟩⟩, fun k h1 h3 => by rw [put_cell _ _ _ h1]⟩
          rw [put_cell _ _ _ (by omega)]; exact a6 j hj
  unfold e_X4_keep
  by_cases b0 : b = 0
  · have ed : dpn b q = 0 := by unfold dpn; rw [if_pos b0]
    rw [if_pos (by rw [b0]; rfl)]
    rw [ed] at j20
    exact j20
  · have ed : dpn b q = dgs 12 b q (b - 1) / 4 + 1 := by
      unfold dpn dgs
      rw [if_neg b0, show b - 1 - (b - 1) = 0 by omega, Nat.pow_zero, Nat.div_one]
    obtain ⟨c1, c2⟩ := hc (b - 1) (by omega)
    rw [if_neg (by rw [n_l0, n_eq (by omega) (by omega)]; exact b0), n_l1, n_sub (by omega), if_pos (by rw [n_inb (by omega)]; simp; omega), n_cl (by omega), c1, n_div4 (by omega), n_add, ← ed]
    exact j20
theorem CX4.cg {u : Mem} {c c2 : Nat → Nat} {k : Nat} (h : CX4 u c k) (he : ∀ a, a < k → c a = c2 a) : CX4 u c2 k := fun a ha => by rw [← he a ha]; exact h a ha
theorem x_setFrom {u0 : Mem} {sp : Nat → Nat} {p b : Nat} (hp : p < 9) (hb : b ≤ 4) (h5 : u0 5 p = nI b) (hs : SPX u0 sp p b) : ∀ (k i q d : Nat) (u : Mem) (A : GA), i + k = b → k < d → KX u0 u → CX4 u (dgs 12 i q) i → GX u b A → A.1 + 12 ^ k < 1000000 → ∃ u2, e_X4_setFrom d u (nI p) (nI i) = some u2 ∧ KX u0 u2 ∧ (∀ j, j < i → u2 32 j = u 32 j) ∧ GX u2 b (TX sp b k q A) := by
  intro k
  have y1 : inb (nI p) 9 = true := by rw [n_inb (by omega)]; simp; omega
  induction k with
  | zero =>
    intro i q d u A hi hd kx cx gx hw
    obtain ⟨d, rfl⟩ : ∃ z, d = z + 1 := ⟨d - 1, by omega⟩
    have e : i = b := by omega
    subst e
    obtain ⟨u2, e1, e2, e3⟩ := x_keep hb cx gx (by omega)
    refine ⟨u2, ?_, fun z hz => by rw [e3 z (by omega) (by omega)]; exact kx z hz, fun j hj => by rw [e3 32 (by omega) (by omega)], e2⟩
    show e_X4_setFrom_b _ _ _ _ = _
    unfold e_X4_setFrom_b e_X4_setFrom_J15
    rw [if_pos y1, n_cl (by omega), kx 5 (by omega), h5, if_pos (by rw [n_le (by omega) (by omega)]; omega), e1, bnv_some]
  | succ k ih =>
    intro i q d u A hi hd kx cx gx hw
    obtain ⟨d, rfl⟩ : ∃ z, d = z + 1 := ⟨d - 1, by omega⟩
    have loop : ∀ (m x g : Nat) (w : Mem), x + m = 12 → m < g → KX u0 w → (∀ j, j < i → w 32 j = u 32 j) → GX w b (rf (fun e A => if fitB sp (dgs 12 (b - k) (q * 12 + e)) (b - (k + 1)) = true then TX sp b k (q * 12 + e) A else A) 0 x A) → ∃ u2, e_X4_setFrom_L24 (e_X4_setFrom d) g w (nI p) (nI i) (nI x) = some u2 ∧ KX u0 u2 ∧ (∀ j, j < i → u2 32 j = u 32 j) ∧ GX u2 b (TX sp b (k + 1) q A) := by
      intro m
      induction m with
      | zero =>
        intro x g w hx hg kxw cw gw
        obtain ⟨g, rfl⟩ : ∃ z, g = z + 1 := ⟨g - 1, by omega⟩
        have e : x = 12 := by omega
        subst e
        refine ⟨w, ?_, kxw, cw, gw⟩
        show e_X4_setFrom_L24_b _ _ _ _ _ _ = _
        unfold e_X4_setFrom_L24_b
        rw [if_pos (by rw [n_l12, n_le (by omega) (by omega)]; omega)]
      | succ m ihm =>
        intro x g w hx hg kxw cw gw
        obtain ⟨g, rfl⟩ : ∃ z, g = z + 1 := ⟨g - 1, by omega⟩
        have kx2 : KX u0 (put w 32 i (nI x)) := kxw.pt _ _ (by omega)
        have cx2 : CX4 (put w 32 i (nI x)) (dgs 12 (i + 1) (q * 12 + x)) (i + 1) := fun a ha => by
          by_cases e : a = i
          · subst e; rw [put_same, dgs_last 12 a q x (by omega)]; exact ⟨rfl, by omega⟩
          · rw [put_slot _ _ (by omega), cw a (by omega), dgs_up 12 i q x a (by omega) (by omega)]; exact cx a (by omega)
        have gx2 : GX (put w 32 i (nI x)) b (rf (fun e A => if fitB sp (dgs 12 (b - k) (q * 12 + e)) (b - (k + 1)) = true then TX sp b k (q * 12 + e) A else A) 0 x A) := by
          unfold GX
          rw [put_cell _ _ _ (by omega), put_cell _ _ _ (by omega)]; exact gw
        have ef := x_fits hp hb (show i < b by omega) cx2 (hs.kp (kx2 6 (by omega)))
        have hbw : (rf (fun e A => if fitB sp (dgs 12 (b - k) (q * 12 + e)) (b - (k + 1)) = true then TX sp b k (q * 12 + e) A else A) 0 x A).1 ≤ A.1 + x * 12 ^ k := rf_w (fun j hj s => by
          show (if _ then _ else _ : GA).1 ≤ _
          split
          · exact TX_w k _ s
          · exact Nat.le_add_right _ _)
        show ∃ u2, e_X4_setFrom_L24_b _ _ _ _ _ _ = _ ∧ _
        unfold e_X4_setFrom_L24_b e_X4_setFrom_J58
        rw [if_neg (by rw [n_l12, n_le (by omega) (by omega)]; omega), if_pos (by rw [n_inb (by omega)]; simp; omega), n_cl (by omega), ef, bnd_some]
        have cw2 : ∀ j, j < i → put w 32 i (nI x) 32 j = u 32 j := fun j hj => by rw [put_slot _ _ (by omega)]; exact cw j hj
        have en : ∀ s : GA, (if fitB sp (dgs 12 (b - k) (q * 12 + (0 + x))) (b - (k + 1)) = true then TX sp b k (q * 12 + (0 + x)) s else s) = if fitB sp (dgs 12 (i + 1) (q * 12 + x)) i = true then TX sp b k (q * 12 + x) s else s := fun s => by rw [Nat.zero_add, show b - k = i + 1 by omega, show b - (k + 1) = i by omega]
        cases hf : fitB sp (dgs 12 (i + 1) (q * 12 + x)) i
        · rw [if_pos (show bI false = 0 from rfl), nI_1]
          refine ihm (x + 1) g _ (by omega) (by omega) kx2 cw2 ?_
          show GX _ b (if fitB sp (dgs 12 (b - k) (q * 12 + (0 + x))) (b - (k + 1)) = true then _ else _)
          rw [en, hf, if_neg (by decide)]
          exact gx2
        · have p12 : 12 ^ (k + 1) = 12 * 12 ^ k := by rw [Nat.pow_succ, Nat.mul_comm]
          have hxk : x * 12 ^ k + 12 ^ k ≤ 12 * 12 ^ k := by rw [← Nat.succ_mul]; exact Nat.mul_le_mul_right _ (by omega)
          obtain ⟨u2, e1, e2, e3, e4⟩ := ih (i + 1) (q * 12 + x) d _ _ (by omega) (by omega) kx2 cx2 gx2 (by omega)
          rw [if_neg (by decide)]
          simp only [nI_1]
          rw [e1, bnv_some]
          refine ihm (x + 1) g u2 (by omega) (by omega) e2 (fun j hj => by rw [e3 j (by omega)]; exact cw2 j hj) ?_
          show GX _ b (if fitB sp (dgs 12 (b - k) (q * 12 + (0 + x))) (b - (k + 1)) = true then _ else _)
          rw [en, hf, if_pos rfl]
          exact e4
    show ∃ u2, e_X4_setFrom_b _ _ _ _ = _ ∧ _
    unfold e_X4_setFrom_b
    rw [if_pos y1, n_cl (by omega), kx 5 (by omega), h5, if_neg (by rw [n_le (by omega) (by omega)]; omega), if_pos (by rw [n_l4, n_lt (by omega) (by omega)]; omega)]
    exact loop 12 0 FU u (by omega) (by unfold FU; omega) kx (fun _ _ => rfl) gx
