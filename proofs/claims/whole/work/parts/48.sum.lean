/-! what is known of many layouts: how many, the fewest pages, how many with so few, and of these the least ragged and the first figures -/
def m2 (x y : Nat × Nat) : Nat × Nat := if y.1 < x.1 ∨ (y.1 = x.1 ∧ y.2 < x.2) then y else x
theorem m2_assoc (x y z : Nat × Nat) : m2 (m2 x y) z = m2 x (m2 y z) := by
  obtain ⟨a, b⟩ := x
  obtain ⟨c, d⟩ := y
  obtain ⟨e, f⟩ := z
  unfold m2
  by_cases h1 : c < a ∨ (c = a ∧ d < b)
  · by_cases h2 : e < c ∨ (e = c ∧ f < d)
    · have h3 : e < a ∨ (e = a ∧ f < b) := by omega
      simp only [if_pos h1, if_pos h2, if_pos h3]
    · simp only [if_pos h1, if_neg h2]
  · by_cases h2 : e < c ∨ (e = c ∧ f < d)
    · simp only [if_neg h1, if_pos h2]
    · have h3 : ¬ (e < a ∨ (e = a ∧ f < b)) := by omega
      simp only [if_neg h1, if_neg h2, if_neg h3]
theorem m2_comm (x y : Nat × Nat) : m2 x y = m2 y x := by
  obtain ⟨a, b⟩ := x
  obtain ⟨c, d⟩ := y
  unfold m2
  by_cases h1 : c < a ∨ (c = a ∧ d < b)
  · have h2 : ¬ (a < c ∨ (a = c ∧ b < d)) := by omega
    simp only [if_pos h1, if_neg h2]
  · by_cases h2 : a < c ∨ (a = c ∧ b < d)
    · simp only [if_neg h1, if_pos h2]
    · have e1 : a = c := by omega
      have e2 : b = d := by omega
      subst e1
      subst e2
      rfl
abbrev GK : Type := Nat × Nat × Nat × Nat
abbrev GS : Type := Nat × Nat × Nat × Nat × Nat
def jt (a b : GK) : GK := if b.1 < a.1 then b else if b.1 = a.1 then (a.1, a.2.1 + b.2.1, m2 a.2.2 b.2.2) else a
theorem jt_lt {a b : GK} (h : b.1 < a.1) : jt a b = b := by unfold jt; rw [if_pos h]
theorem jt_eq {a b : GK} (h : b.1 = a.1) : jt a b = (a.1, a.2.1 + b.2.1, m2 a.2.2 b.2.2) := by unfold jt; rw [if_neg (by omega), if_pos h]
theorem jt_gt {a b : GK} (h : a.1 < b.1) : jt a b = a := by unfold jt; rw [if_neg (by omega), if_neg (by omega)]
theorem jt_assoc (a b c : GK) : jt (jt a b) c = jt a (jt b c) := by
  rcases Nat.lt_trichotomy b.1 a.1 with h | h | h
  · rw [jt_lt h]
    rcases Nat.lt_trichotomy c.1 b.1 with k | k | k
    · rw [jt_lt k, jt_lt (show c.1 < a.1 by omega)]
    · rw [jt_eq k, jt_lt (show ((b.1, b.2.1 + c.2.1, m2 b.2.2 c.2.2) : GK).1 < a.1 from h)]
    · rw [jt_gt k, jt_lt h]
  · rw [jt_eq h]
    rcases Nat.lt_trichotomy c.1 b.1 with k | k | k
    · rw [jt_lt k, jt_lt (show c.1 < a.1 by omega), jt_lt (show c.1 < ((a.1, a.2.1 + b.2.1, m2 a.2.2 b.2.2) : GK).1 from (by omega : c.1 < a.1))]
    · rw [jt_eq k, jt_eq (show ((b.1, b.2.1 + c.2.1, m2 b.2.2 c.2.2) : GK).1 = a.1 from h), jt_eq (show c.1 = ((a.1, a.2.1 + b.2.1, m2 a.2.2 b.2.2) : GK).1 from k.trans h)]
      show (a.1, a.2.1 + b.2.1 + c.2.1, m2 (m2 a.2.2 b.2.2) c.2.2) = (a.1, a.2.1 + (b.2.1 + c.2.1), m2 a.2.2 (m2 b.2.2 c.2.2))
      rw [Nat.add_assoc, m2_assoc]
    · rw [jt_gt k, jt_eq h, jt_gt (show ((a.1, a.2.1 + b.2.1, m2 a.2.2 b.2.2) : GK).1 < c.1 from (by omega : a.1 < c.1))]
  · rw [jt_gt h]
    rcases Nat.lt_trichotomy c.1 b.1 with k | k | k
    · rw [jt_lt k]
    · rw [jt_eq k, jt_gt (show a.1 < ((b.1, b.2.1 + c.2.1, m2 b.2.2 c.2.2) : GK).1 from h), jt_gt (show a.1 < c.1 by omega)]
    · rw [jt_gt k, jt_gt h, jt_gt (show a.1 < c.1 by omega)]
theorem jt_comm (a b : GK) : jt a b = jt b a := by
  rcases Nat.lt_trichotomy b.1 a.1 with h | h | h
  · rw [jt_lt h, jt_gt h]
  · rw [jt_eq h, jt_eq h.symm, h, Nat.add_comm, m2_comm]
  · rw [jt_gt h, jt_lt h]
def Zs : GS := (0, 0, 0, 0, 0)
def jn (A B : GS) : GS := (A.1 + B.1, if B.1 = 0 then A.2 else if A.1 = 0 then B.2 else jt A.2 B.2)
theorem jn_w (A B : GS) : (jn A B).1 = A.1 + B.1 := rfl
theorem jn_assoc (A B C : GS) : jn (jn A B) C = jn A (jn B C) := by
  unfold jn
  by_cases a : A.1 = 0 <;> by_cases b : B.1 = 0 <;> by_cases c : C.1 = 0 <;> simp [a, b, c, Nat.add_assoc, jt_assoc]
def CN (A : GS) : Prop := A.1 = 0 → A = Zs
theorem jn_comm {A B : GS} (ha : CN A) (hb : CN B) : jn A B = jn B A := by
  by_cases a : A.1 = 0
  · have e := ha a
    subst e
    by_cases b : B.1 = 0
    · have e := hb b
      subst e
      rfl
    · unfold jn
      simp [b, Zs]
  · by_cases b : B.1 = 0
    · have e := hb b
      subst e
      unfold jn
      simp [a, Zs]
    · unfold jn
      simp [a, b]
      exact ⟨Nat.add_comm _ _, jt_comm _ _⟩
theorem jn_z (A : GS) : jn A Zs = A := by
  unfold jn
  simp [Zs]
theorem z_jn {A : GS} (h : CN A) : jn Zs A = A := by rw [jn_comm (fun _ => rfl) h, jn_z]
theorem jn_cn {A B : GS} (ha : CN A) (hb : CN B) : CN (jn A B) := by
  intro h
  rw [jn_w] at h
  rw [ha (by omega), hb (by omega)]
  rfl
/-- all of them with so many more pages, so much more ragged, and these figures ahead -/
def sh (p r c : Nat) (A : GS) : GS := if A.1 = 0 then Zs else (A.1, p + A.2.1, A.2.2.1, r + A.2.2.2.1, c + A.2.2.2.2)
theorem sh_z {p r c : Nat} {A : GS} (h : A.1 = 0) : sh p r c A = Zs := by unfold sh; rw [if_pos h]
theorem sh_n {p r c : Nat} {A : GS} (h : A.1 ≠ 0) : sh p r c A = (A.1, p + A.2.1, A.2.2.1, r + A.2.2.2.1, c + A.2.2.2.2) := by unfold sh; rw [if_neg h]
theorem sh_w (p r c : Nat) (A : GS) : (sh p r c A).1 = A.1 := by
  unfold sh
  split
  · rename_i h; rw [h]; rfl
  · rfl
theorem sh_cn (p r c : Nat) (A : GS) : CN (sh p r c A) := by
  intro h
  rw [sh_w] at h
  exact sh_z h
theorem sh_sh (p r c p2 r2 c2 : Nat) (A : GS) : sh p r c (sh p2 r2 c2 A) = sh (p + p2) (r + r2) (c + c2) A := by
  by_cases h : A.1 = 0
  · rw [sh_z h, sh_z h, sh_z rfl]
  · rw [sh_n (A := A) h, sh_n (A := A) h, sh_n (show ((A.1, p2 + A.2.1, A.2.2.1, r2 + A.2.2.2.1, c2 + A.2.2.2.2) : GS).1 ≠ 0 from h)]
    simp only [Nat.add_assoc]
theorem jt_sh (p r c : Nat) (a b : GK) : jt (p + a.1, a.2.1, r + a.2.2.1, c + a.2.2.2) (p + b.1, b.2.1, r + b.2.2.1, c + b.2.2.2) = (p + (jt a b).1, (jt a b).2.1, r + (jt a b).2.2.1, c + (jt a b).2.2.2) := by
  rcases Nat.lt_trichotomy b.1 a.1 with h | h | h
  · rw [jt_lt h, jt_lt (show p + b.1 < p + a.1 by omega)]
  · rw [jt_eq h, jt_eq (show p + b.1 = p + a.1 by omega)]
    unfold m2
    by_cases k : b.2.2.1 < a.2.2.1 ∨ (b.2.2.1 = a.2.2.1 ∧ b.2.2.2 < a.2.2.2)
    · have k2 : r + b.2.2.1 < r + a.2.2.1 ∨ (r + b.2.2.1 = r + a.2.2.1 ∧ c + b.2.2.2 < c + a.2.2.2) := by omega
      simp only [if_pos k, if_pos k2]
    · have k2 : ¬ (r + b.2.2.1 < r + a.2.2.1 ∨ (r + b.2.2.1 = r + a.2.2.1 ∧ c + b.2.2.2 < c + a.2.2.2)) := by omega
      simp only [if_neg k, if_neg k2]
  · rw [jt_gt h, jt_gt (show p + a.1 < p + b.1 by omega)]
theorem sh_jn (p r c : Nat) (A B : GS) : sh p r c (jn A B) = jn (sh p r c A) (sh p r c B) := by
  by_cases a : A.1 = 0
  · rw [sh_z a, z_jn (sh_cn _ _ _ _)]
    by_cases b : B.1 = 0
    · rw [sh_z b, sh_z (by rw [jn_w, a, b])]
    · have : jn A B = B := by
        unfold jn
        simp [a, b]
      rw [this]
  · by_cases b : B.1 = 0
    · rw [sh_z b, jn_z]
      have : jn A B = A := by
        unfold jn
        simp [b]
      rw [this]
    · rw [sh_n a, sh_n b, sh_n (by rw [jn_w]; omega)]
      unfold jn
      simp only [if_neg a, if_neg b]
      rw [jt_sh]
theorem jn_b {p r c : Nat} {A B : GS} (ha : A.2.1 ≤ p ∧ A.2.2.2.1 ≤ r ∧ A.2.2.2.2 < c) (hb : B.2.1 ≤ p ∧ B.2.2.2.1 ≤ r ∧ B.2.2.2.2 < c) : (jn A B).2.1 ≤ p ∧ (jn A B).2.2.2.1 ≤ r ∧ (jn A B).2.2.2.2 < c := by
  unfold jn
  show (if _ then _ else _ : GK).1 ≤ p ∧ (if _ then _ else _ : GK).2.2.1 ≤ r ∧ (if _ then _ else _ : GK).2.2.2 < c
  split
  · exact ha
  · split
    · exact hb
    · unfold jt
      split
      · exact hb
      · split
        · unfold m2
          split
          · exact ⟨ha.1, hb.2⟩
          · exact ha
        · exact ha
