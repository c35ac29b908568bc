theorem n_31 {k : Nat} (h : k ≤ 8) : nI (2 * k) &&& (31 : Int32) = nI (2 * k) := by
  rcases (by omega : k = 0 ∨ k = 1 ∨ k = 2 ∨ k = 3 ∨ k = 4 ∨ k = 5 ∨ k = 6 ∨ k = 7 ∨ k = 8) with e | e | e | e | e | e | e | e | e <;> subst e <;> decide
theorem nI_bv (a : Nat) : (nI a).toBitVec = BitVec.ofNat 32 a := rfl
theorem n_shl {a k : Nat} (h : k ≤ 8) : nI a <<< nI (2 * k) = nI (a * 4 ^ k) := by
  rw [← Int32.toBitVec_inj, Int32.toBitVec_shiftLeft, nI_bv, nI_bv, nI_bv]
  rcases (by omega : k = 0 ∨ k = 1 ∨ k = 2 ∨ k = 3 ∨ k = 4 ∨ k = 5 ∨ k = 6 ∨ k = 7 ∨ k = 8) with e | e | e | e | e | e | e | e | e <;> subst e <;> apply BitVec.eq_of_toNat_eq <;> simp [Nat.shiftLeft_eq]
theorem n_or {a c k : Nat} (hk : k ≤ 9) (ha : a < 1048576) (hc : c < 4 ^ k) (hb : a * 4 ^ k < 1048576) : nI (a * 4 ^ k) ||| nI c = nI (a * 4 ^ k + c) := by
  have e4 : 4 ^ k = 2 ^ (2 * k) := by rw [Nat.pow_mul]
  have hc2 : c < 1048576 := by
    have : 4 ^ k ≤ 4 ^ 9 := Nat.pow_le_pow_right (by omega) hk
    omega
  rw [← Int32.toBitVec_inj, Int32.toBitVec_or, nI_bv, nI_bv, nI_bv]
  apply BitVec.eq_of_toNat_eq
  rw [BitVec.toNat_or, BitVec.toNat_ofNat, BitVec.toNat_ofNat, BitVec.toNat_ofNat, Nat.mod_eq_of_lt (show a * 4 ^ k < 2 ^ 32 by omega), Nat.mod_eq_of_lt (show c < 2 ^ 32 by omega), Nat.mod_eq_of_lt (show a * 4 ^ k + c < 2 ^ 32 by omega), e4, Nat.mul_comm a, ← Nat.two_pow_add_eq_or_of_lt (by rw [← e4]; exact hc)]
theorem n_shr {a k : Nat} (h : k ≤ 8) (ha : a < 1048576) : nI a >>> nI (2 * k) = nI (a / 4 ^ k) := by
  have hd : a / 4 ^ k < 1048576 := Nat.lt_of_le_of_lt (Nat.div_le_self _ _) ha
  rw [i_eq, i_nI (by omega)]
  rw [show (nI a >>> nI (2 * k)).toInt = ((nI a).toBitVec.sshiftRight' ((nI (2 * k)).toBitVec.smod 32)).toInt from rfl]
  have e : ((nI (2 * k)).toBitVec.smod 32).toNat = 2 * k := by
    rcases (by omega : k = 0 ∨ k = 1 ∨ k = 2 ∨ k = 3 ∨ k = 4 ∨ k = 5 ∨ k = 6 ∨ k = 7 ∨ k = 8) with e | e | e | e | e | e | e | e | e <;> subst e <;> decide
  rw [BitVec.sshiftRight', BitVec.toInt_sshiftRight, e, show (nI a).toBitVec.toInt = (nI a).toInt from rfl, i_nI (by omega), Int.shiftRight_eq_div_pow, Nat.pow_mul]
  rfl
theorem n_and3 {a : Nat} (ha : a < 1048576) : nI a &&& (3 : Int32) = nI (a % 4) := by
  rw [n_l3, ← Int32.toBitVec_inj, Int32.toBitVec_and, nI_bv, nI_bv, nI_bv]
  apply BitVec.eq_of_toNat_eq
  rw [BitVec.toNat_and, BitVec.toNat_ofNat, BitVec.toNat_ofNat, BitVec.toNat_ofNat, Nat.mod_eq_of_lt (show a < 2 ^ 32 by omega), Nat.mod_eq_of_lt (show 3 < 2 ^ 32 by omega), Nat.mod_eq_of_lt (show a % 4 < 2 ^ 32 by omega)]
  exact Nat.and_two_pow_sub_one_eq_mod a 2
