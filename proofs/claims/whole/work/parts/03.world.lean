theorem va_D_addr {A : Nat → Prop} {ws ws2 : va_W} (h : ws.map Prod.fst = ws2.map Prod.fst) (hD : va_D A ws) : va_D A ws2 := by
  have key : ∀ (i : Nat) (p : Nat × va_E), ws2[i]? = some p → ∃ p2, ws[i]? = some p2 ∧ p2.1 = p.1 := by
    intro i p hp
    have e := congrArg (fun l => l[i]?) h
    simp only [List.getElem?_map, hp, Option.map_some] at e
    match hq : ws[i]?, e with
    | some p2, e => exact ⟨p2, rfl, by simpa [hq] using e⟩
    | none, e => simp [hq] at e
  refine ⟨fun i j p q hi hj e => ?_, fun k q hk => ?_⟩
  · obtain ⟨p2, a1, a2⟩ := key i p hi
    obtain ⟨q2, b1, b2⟩ := key j q hj
    exact hD.1 i j p2 q2 a1 b1 (a2.trans (e.trans b2.symm))
  · obtain ⟨q2, b1, b2⟩ := key k q hk
    exact b2 ▸ hD.2 k q2 b1
def cpy (u : Mem) (a b n : Nat) : Mem := fun k2 => if k2 = b then va_cpy (u a) (u b) 0 0 n else u k2
theorem ite_nn {c : Prop} [Decidable c] {ρ : Type} {E : Option ρ} {res : ρ} (h : (if c then none else E) = some res) : ¬ c ∧ E = some res := by
  by_cases q : c
  · rw [if_pos q] at h; cases h
  · exact ⟨q, (if_neg q).symm.trans h⟩
theorem tab_ne {x y : Int32} (h : ¬ x = y) : x.toInt ≠ y.toInt := fun e => h (Int32.toInt_inj.mp e)
def FU : Nat := 100000
def RD : Nat := 12
def XW (ad : Nat → Nat) (cI cB : ClassId) (u : Mem) : va_W := [(ad 0, .inr (5, [.ref (ad 1), .ref (ad 7), .ref (ad 9), .ref (ad 17), .ref (ad 31), .ref (ad 34), .int (u 0 6)])),
  (ad 1, .inr (0, [.int (u 1 0), .int (u 1 1), .ref (ad 2), .ref (ad 3), .ref (ad 4), .ref (ad 5), .ref (ad 6)])),
  (ad 2, .inl (cI, 9, .inl (u 2))),
  (ad 3, .inl (cI, 9, .inl (u 3))),
  (ad 4, .inl (cI, 9, .inl (u 4))),
  (ad 5, .inl (cI, 9, .inl (u 5))),
  (ad 6, .inl (cI, 36, .inl (u 6))),
  (ad 7, .inr (2, [.int (u 7 0), .ref (ad 8)])),
  (ad 8, .inl (cI, 9, .inl (u 8))),
  (ad 9, .inr (1, [.int (u 9 0), .int (u 9 1), .int (u 9 2), .int (u 9 3), .int (u 9 4), .ref (ad 10), .ref (ad 11), .ref (ad 12), .ref (ad 13), .ref (ad 14), .ref (ad 15), .ref (ad 16)])),
  (ad 10, .inl (cI, 9, .inl (u 10))),
  (ad 11, .inl (cI, 9, .inl (u 11))),
  (ad 12, .inl (cI, 9, .inl (u 12))),
  (ad 13, .inl (cI, 9, .inl (u 13))),
  (ad 14, .inl (cI, 9, .inl (u 14))),
  (ad 15, .inl (cI, 9, .inl (u 15))),
  (ad 16, .inl (cI, 9, .inl (u 16))),
  (ad 17, .inr (3, [.ref (ad 18), .ref (ad 26), .ref (ad 27), .ref (ad 28), .ref (ad 29), .ref (ad 30)])),
  (ad 18, .inr (1, [.int (u 18 0), .int (u 18 1), .int (u 18 2), .int (u 18 3), .int (u 18 4), .ref (ad 19), .ref (ad 20), .ref (ad 21), .ref (ad 22), .ref (ad 23), .ref (ad 24), .ref (ad 25)])),
  (ad 19, .inl (cI, 9, .inl (u 19))),
  (ad 20, .inl (cI, 9, .inl (u 20))),
  (ad 21, .inl (cI, 9, .inl (u 21))),
  (ad 22, .inl (cI, 9, .inl (u 22))),
  (ad 23, .inl (cI, 9, .inl (u 23))),
  (ad 24, .inl (cI, 9, .inl (u 24))),
  (ad 25, .inl (cI, 9, .inl (u 25))),
  (ad 26, .inl (cI, 20, .inl (u 26))),
  (ad 27, .inl (cI, 20, .inl (u 27))),
  (ad 28, .inl (cI, 20, .inl (u 28))),
  (ad 29, .inl (cI, 20, .inl (u 29))),
  (ad 30, .inl (cI, 20, .inl (u 30))),
  (ad 31, .inr (4, [.ref (ad 32), .ref (ad 33), .int (u 31 2), .int (u 31 3), .int (u 31 4)])),
  (ad 32, .inl (cI, 4, .inl (u 32))),
  (ad 33, .inl (cI, 4, .inl (u 33))),
  (ad 34, .inl (cB, 2, .inr (.inr (.inr (.inr (fun j => if j = 0 then some (ad 35) else some (ad 41))))))),
  (ad 35, .inr (0, [.int (u 35 0), .int (u 35 1), .ref (ad 36), .ref (ad 37), .ref (ad 38), .ref (ad 39), .ref (ad 40)])),
  (ad 36, .inl (cI, 9, .inl (u 36))),
  (ad 37, .inl (cI, 9, .inl (u 37))),
  (ad 38, .inl (cI, 9, .inl (u 38))),
  (ad 39, .inl (cI, 9, .inl (u 39))),
  (ad 40, .inl (cI, 36, .inl (u 40))),
  (ad 41, .inr (0, [.int (u 41 0), .int (u 41 1), .ref (ad 42), .ref (ad 43), .ref (ad 44), .ref (ad 45), .ref (ad 46)])),
  (ad 42, .inl (cI, 9, .inl (u 42))),
  (ad 43, .inl (cI, 9, .inl (u 43))),
  (ad 44, .inl (cI, 9, .inl (u 44))),
  (ad 45, .inl (cI, 9, .inl (u 45))),
  (ad 46, .inl (cI, 36, .inl (u 46)))]
theorem XW_D (ad : Nat → Nat) (cI cB : ClassId) {A : Nat → Prop} (u u1 : Mem) : va_D A (XW ad cI cB u) → va_D A (XW ad cI cB u1) := va_D_addr rfl
theorem xc_0 (ad : Nat → Nat) (cI cB : ClassId) (u : Mem) : (XW ad cI cB u)[0]? = some (ad 0, .inr (5, [.ref (ad 1), .ref (ad 7), .ref (ad 9), .ref (ad 17), .ref (ad 31), .ref (ad 34), .int (u 0 6)])) := rfl
theorem xs_0_6 (ad : Nat → Nat) (cI cB : ClassId) (u : Mem) (v : Int32) : (XW ad cI cB u).set 0 (ad 0, .inr (5, [.ref (ad 1), .ref (ad 7), .ref (ad 9), .ref (ad 17), .ref (ad 31), .ref (ad 34), .int (u 0 6)].set 6 (.int v))) = XW ad cI cB (put u 0 6 v) := rfl
theorem xc_1 (ad : Nat → Nat) (cI cB : ClassId) (u : Mem) : (XW ad cI cB u)[1]? = some (ad 1, .inr (0, [.int (u 1 0), .int (u 1 1), .ref (ad 2), .ref (ad 3), .ref (ad 4), .ref (ad 5), .ref (ad 6)])) := rfl
theorem xs_1_0 (ad : Nat → Nat) (cI cB : ClassId) (u : Mem) (v : Int32) : (XW ad cI cB u).set 1 (ad 1, .inr (0, [.int (u 1 0), .int (u 1 1), .ref (ad 2), .ref (ad 3), .ref (ad 4), .ref (ad 5), .ref (ad 6)].set 0 (.int v))) = XW ad cI cB (put u 1 0 v) := rfl
theorem xs_1_1 (ad : Nat → Nat) (cI cB : ClassId) (u : Mem) (v : Int32) : (XW ad cI cB u).set 1 (ad 1, .inr (0, [.int (u 1 0), .int (u 1 1), .ref (ad 2), .ref (ad 3), .ref (ad 4), .ref (ad 5), .ref (ad 6)].set 1 (.int v))) = XW ad cI cB (put u 1 1 v) := rfl
theorem xc_2 (ad : Nat → Nat) (cI cB : ClassId) (u : Mem) : (XW ad cI cB u)[2]? = some (ad 2, .inl (cI, 9, .inl (u 2))) := rfl
theorem xs_2 (ad : Nat → Nat) (cI cB : ClassId) (u : Mem) (j : Nat) (v : Int32) : (XW ad cI cB u).set 2 (ad 2, .inl (cI, 9, .inl (upd (u 2) j v))) = XW ad cI cB (put u 2 j v) := rfl
theorem xc_3 (ad : Nat → Nat) (cI cB : ClassId) (u : Mem) : (XW ad cI cB u)[3]? = some (ad 3, .inl (cI, 9, .inl (u 3))) := rfl
theorem xs_3 (ad : Nat → Nat) (cI cB : ClassId) (u : Mem) (j : Nat) (v : Int32) : (XW ad cI cB u).set 3 (ad 3, .inl (cI, 9, .inl (upd (u 3) j v))) = XW ad cI cB (put u 3 j v) := rfl
theorem xc_4 (ad : Nat → Nat) (cI cB : ClassId) (u : Mem) : (XW ad cI cB u)[4]? = some (ad 4, .inl (cI, 9, .inl (u 4))) := rfl
theorem xs_4 (ad : Nat → Nat) (cI cB : ClassId) (u : Mem) (j : Nat) (v : Int32) : (XW ad cI cB u).set 4 (ad 4, .inl (cI, 9, .inl (upd (u 4) j v))) = XW ad cI cB (put u 4 j v) := rfl
theorem xc_5 (ad : Nat → Nat) (cI cB : ClassId) (u : Mem) : (XW ad cI cB u)[5]? = some (ad 5, .inl (cI, 9, .inl (u 5))) := rfl
theorem xs_5 (ad : Nat → Nat) (cI cB : ClassId) (u : Mem) (j : Nat) (v : Int32) : (XW ad cI cB u).set 5 (ad 5, .inl (cI, 9, .inl (upd (u 5) j v))) = XW ad cI cB (put u 5 j v) := rfl
theorem xc_6 (ad : Nat → Nat) (cI cB : ClassId) (u : Mem) : (XW ad cI cB u)[6]? = some (ad 6, .inl (cI, 36, .inl (u 6))) := rfl
theorem xs_6 (ad : Nat → Nat) (cI cB : ClassId) (u : Mem) (j : Nat) (v : Int32) : (XW ad cI cB u).set 6 (ad 6, .inl (cI, 36, .inl (upd (u 6) j v))) = XW ad cI cB (put u 6 j v) := rfl
theorem xc_7 (ad : Nat → Nat) (cI cB : ClassId) (u : Mem) : (XW ad cI cB u)[7]? = some (ad 7, .inr (2, [.int (u 7 0), .ref (ad 8)])) := rfl
theorem xs_7_0 (ad : Nat → Nat) (cI cB : ClassId) (u : Mem) (v : Int32) : (XW ad cI cB u).set 7 (ad 7, .inr (2, [.int (u 7 0), .ref (ad 8)].set 0 (.int v))) = XW ad cI cB (put u 7 0 v) := rfl
theorem xc_8 (ad : Nat → Nat) (cI cB : ClassId) (u : Mem) : (XW ad cI cB u)[8]? = some (ad 8, .inl (cI, 9, .inl (u 8))) := rfl
theorem xs_8 (ad : Nat → Nat) (cI cB : ClassId) (u : Mem) (j : Nat) (v : Int32) : (XW ad cI cB u).set 8 (ad 8, .inl (cI, 9, .inl (upd (u 8) j v))) = XW ad cI cB (put u 8 j v) := rfl
theorem xc_9 (ad : Nat → Nat) (cI cB : ClassId) (u : Mem) : (XW ad cI cB u)[9]? = some (ad 9, .inr (1, [.int (u 9 0), .int (u 9 1), .int (u 9 2), .int (u 9 3), .int (u 9 4), .ref (ad 10), .ref (ad 11), .ref (ad 12), .ref (ad 13), .ref (ad 14), .ref (ad 15), .ref (ad 16)])) := rfl
theorem xs_9_0 (ad : Nat → Nat) (cI cB : ClassId) (u : Mem) (v : Int32) : (XW ad cI cB u).set 9 (ad 9, .inr (1, [.int (u 9 0), .int (u 9 1), .int (u 9 2), .int (u 9 3), .int (u 9 4), .ref (ad 10), .ref (ad 11), .ref (ad 12), .ref (ad 13), .ref (ad 14), .ref (ad 15), .ref (ad 16)].set 0 (.int v))) = XW ad cI cB (put u 9 0 v) := rfl
theorem xs_9_1 (ad : Nat → Nat) (cI cB : ClassId) (u : Mem) (v : Int32) : (XW ad cI cB u).set 9 (ad 9, .inr (1, [.int (u 9 0), .int (u 9 1), .int (u 9 2), .int (u 9 3), .int (u 9 4), .ref (ad 10), .ref (ad 11), .ref (ad 12), .ref (ad 13), .ref (ad 14), .ref (ad 15), .ref (ad 16)].set 1 (.int v))) = XW ad cI cB (put u 9 1 v) := rfl
theorem xs_9_2 (ad : Nat → Nat) (cI cB : ClassId) (u : Mem) (v : Int32) : (XW ad cI cB u).set 9 (ad 9, .inr (1, [.int (u 9 0), .int (u 9 1), .int (u 9 2), .int (u 9 3), .int (u 9 4), .ref (ad 10), .ref (ad 11), .ref (ad 12), .ref (ad 13), .ref (ad 14), .ref (ad 15), .ref (ad 16)].set 2 (.int v))) = XW ad cI cB (put u 9 2 v) := rfl
theorem xs_9_3 (ad : Nat → Nat) (cI cB : ClassId) (u : Mem) (v : Int32) : (XW ad cI cB u).set 9 (ad 9, .inr (1, [.int (u 9 0), .int (u 9 1), .int (u 9 2), .int (u 9 3), .int (u 9 4), .ref (ad 10), .ref (ad 11), .ref (ad 12), .ref (ad 13), .ref (ad 14), .ref (ad 15), .ref (ad 16)].set 3 (.int v))) = XW ad cI cB (put u 9 3 v) := rfl
theorem xs_9_4 (ad : Nat → Nat) (cI cB : ClassId) (u : Mem) (v : Int32) : (XW ad cI cB u).set 9 (ad 9, .inr (1, [.int (u 9 0), .int (u 9 1), .int (u 9 2), .int (u 9 3), .int (u 9 4), .ref (ad 10), .ref (ad 11), .ref (ad 12), .ref (ad 13), .ref (ad 14), .ref (ad 15), .ref (ad 16)].set 4 (.int v))) = XW ad cI cB (put u 9 4 v) := rfl
theorem xc_10 (ad : Nat → Nat) (cI cB : ClassId) (u : Mem) : (XW ad cI cB u)[10]? = some (ad 10, .inl (cI, 9, .inl (u 10))) := rfl
theorem xs_10 (ad : Nat → Nat) (cI cB : ClassId) (u : Mem) (j : Nat) (v : Int32) : (XW ad cI cB u).set 10 (ad 10, .inl (cI, 9, .inl (upd (u 10) j v))) = XW ad cI cB (put u 10 j v) := rfl
theorem xc_11 (ad : Nat → Nat) (cI cB : ClassId) (u : Mem) : (XW ad cI cB u)[11]? = some (ad 11, .inl (cI, 9, .inl (u 11))) := rfl
theorem xs_11 (ad : Nat → Nat) (cI cB : ClassId) (u : Mem) (j : Nat) (v : Int32) : (XW ad cI cB u).set 11 (ad 11, .inl (cI, 9, .inl (upd (u 11) j v))) = XW ad cI cB (put u 11 j v) := rfl
theorem xc_12 (ad : Nat → Nat) (cI cB : ClassId) (u : Mem) : (XW ad cI cB u)[12]? = some (ad 12, .inl (cI, 9, .inl (u 12))) := rfl
theorem xs_12 (ad : Nat → Nat) (cI cB : ClassId) (u : Mem) (j : Nat) (v : Int32) : (XW ad cI cB u).set 12 (ad 12, .inl (cI, 9, .inl (upd (u 12) j v))) = XW ad cI cB (put u 12 j v) := rfl
theorem xc_13 (ad : Nat → Nat) (cI cB : ClassId) (u : Mem) : (XW ad cI cB u)[13]? = some (ad 13, .inl (cI, 9, .inl (u 13))) := rfl
theorem xs_13 (ad : Nat → Nat) (cI cB : ClassId) (u : Mem) (j : Nat) (v : Int32) : (XW ad cI cB u).set 13 (ad 13, .inl (cI, 9, .inl (upd (u 13) j v))) = XW ad cI cB (put u 13 j v) := rfl
theorem xc_14 (ad : Nat → Nat) (cI cB : ClassId) (u : Mem) : (XW ad cI cB u)[14]? = some (ad 14, .inl (cI, 9, .inl (u 14))) := rfl
theorem xs_14 (ad : Nat → Nat) (cI cB : ClassId) (u : Mem) (j : Nat) (v : Int32) : (XW ad cI cB u).set 14 (ad 14, .inl (cI, 9, .inl (upd (u 14) j v))) = XW ad cI cB (put u 14 j v) := rfl
theorem xc_15 (ad : Nat → Nat) (cI cB : ClassId) (u : Mem) : (XW ad cI cB u)[15]? = some (ad 15, .inl (cI, 9, .inl (u 15))) := rfl
theorem xs_15 (ad : Nat → Nat) (cI cB : ClassId) (u : Mem) (j : Nat) (v : Int32) : (XW ad cI cB u).set 15 (ad 15, .inl (cI, 9, .inl (upd (u 15) j v))) = XW ad cI cB (put u 15 j v) := rfl
theorem xc_16 (ad : Nat → Nat) (cI cB : ClassId) (u : Mem) : (XW ad cI cB u)[16]? = some (ad 16, .inl (cI, 9, .inl (u 16))) := rfl
theorem xs_16 (ad : Nat → Nat) (cI cB : ClassId) (u : Mem) (j : Nat) (v : Int32) : (XW ad cI cB u).set 16 (ad 16, .inl (cI, 9, .inl (upd (u 16) j v))) = XW ad cI cB (put u 16 j v) := rfl
theorem xc_17 (ad : Nat → Nat) (cI cB : ClassId) (u : Mem) : (XW ad cI cB u)[17]? = some (ad 17, .inr (3, [.ref (ad 18), .ref (ad 26), .ref (ad 27), .ref (ad 28), .ref (ad 29), .ref (ad 30)])) := rfl
theorem xc_18 (ad : Nat → Nat) (cI cB : ClassId) (u : Mem) : (XW ad cI cB u)[18]? = some (ad 18, .inr (1, [.int (u 18 0), .int (u 18 1), .int (u 18 2), .int (u 18 3), .int (u 18 4), .ref (ad 19), .ref (ad 20), .ref (ad 21), .ref (ad 22), .ref (ad 23), .ref (ad 24), .ref (ad 25)])) := rfl
theorem xs_18_0 (ad : Nat → Nat) (cI cB : ClassId) (u : Mem) (v : Int32) : (XW ad cI cB u).set 18 (ad 18, .inr (1, [.int (u 18 0), .int (u 18 1), .int (u 18 2), .int (u 18 3), .int (u 18 4), .ref (ad 19), .ref (ad 20), .ref (ad 21), .ref (ad 22), .ref (ad 23), .ref (ad 24), .ref (ad 25)].set 0 (.int v))) = XW ad cI cB (put u 18 0 v) := rfl
theorem xs_18_1 (ad : Nat → Nat) (cI cB : ClassId) (u : Mem) (v : Int32) : (XW ad cI cB u).set 18 (ad 18, .inr (1, [.int (u 18 0), .int (u 18 1), .int (u 18 2), .int (u 18 3), .int (u 18 4), .ref (ad 19), .ref (ad 20), .ref (ad 21), .ref (ad 22), .ref (ad 23), .ref (ad 24), .ref (ad 25)].set 1 (.int v))) = XW ad cI cB (put u 18 1 v) := rfl
theorem xs_18_2 (ad : Nat → Nat) (cI cB : ClassId) (u : Mem) (v : Int32) : (XW ad cI cB u).set 18 (ad 18, .inr (1, [.int (u 18 0), .int (u 18 1), .int (u 18 2), .int (u 18 3), .int (u 18 4), .ref (ad 19), .ref (ad 20), .ref (ad 21), .ref (ad 22), .ref (ad 23), .ref (ad 24), .ref (ad 25)].set 2 (.int v))) = XW ad cI cB (put u 18 2 v) := rfl
theorem xs_18_3 (ad : Nat → Nat) (cI cB : ClassId) (u : Mem) (v : Int32) : (XW ad cI cB u).set 18 (ad 18, .inr (1, [.int (u 18 0), .int (u 18 1), .int (u 18 2), .int (u 18 3), .int (u 18 4), .ref (ad 19), .ref (ad 20), .ref (ad 21), .ref (ad 22), .ref (ad 23), .ref (ad 24), .ref (ad 25)].set 3 (.int v))) = XW ad cI cB (put u 18 3 v) := rfl
theorem xs_18_4 (ad : Nat → Nat) (cI cB : ClassId) (u : Mem) (v : Int32) : (XW ad cI cB u).set 18 (ad 18, .inr (1, [.int (u 18 0), .int (u 18 1), .int (u 18 2), .int (u 18 3), .int (u 18 4), .ref (ad 19), .ref (ad 20), .ref (ad 21), .ref (ad 22), .ref (ad 23), .ref (ad 24), .ref (ad 25)].set 4 (.int v))) = XW ad cI cB (put u 18 4 v) := rfl
theorem xc_19 (ad : Nat → Nat) (cI cB : ClassId) (u : Mem) : (XW ad cI cB u)[19]? = some (ad 19, .inl (cI, 9, .inl (u 19))) := rfl
theorem xs_19 (ad : Nat → Nat) (cI cB : ClassId) (u : Mem) (j : Nat) (v : Int32) : (XW ad cI cB u).set 19 (ad 19, .inl (cI, 9, .inl (upd (u 19) j v))) = XW ad cI cB (put u 19 j v) := rfl
theorem xc_20 (ad : Nat → Nat) (cI cB : ClassId) (u : Mem) : (XW ad cI cB u)[20]? = some (ad 20, .inl (cI, 9, .inl (u 20))) := rfl
theorem xs_20 (ad : Nat → Nat) (cI cB : ClassId) (u : Mem) (j : Nat) (v : Int32) : (XW ad cI cB u).set 20 (ad 20, .inl (cI, 9, .inl (upd (u 20) j v))) = XW ad cI cB (put u 20 j v) := rfl
theorem xc_21 (ad : Nat → Nat) (cI cB : ClassId) (u : Mem) : (XW ad cI cB u)[21]? = some (ad 21, .inl (cI, 9, .inl (u 21))) := rfl
theorem xs_21 (ad : Nat → Nat) (cI cB : ClassId) (u : Mem) (j : Nat) (v : Int32) : (XW ad cI cB u).set 21 (ad 21, .inl (cI, 9, .inl (upd (u 21) j v))) = XW ad cI cB (put u 21 j v) := rfl
theorem xc_22 (ad : Nat → Nat) (cI cB : ClassId) (u : Mem) : (XW ad cI cB u)[22]? = some (ad 22, .inl (cI, 9, .inl (u 22))) := rfl
theorem xs_22 (ad : Nat → Nat) (cI cB : ClassId) (u : Mem) (j : Nat) (v : Int32) : (XW ad cI cB u).set 22 (ad 22, .inl (cI, 9, .inl (upd (u 22) j v))) = XW ad cI cB (put u 22 j v) := rfl
theorem xc_23 (ad : Nat → Nat) (cI cB : ClassId) (u : Mem) : (XW ad cI cB u)[23]? = some (ad 23, .inl (cI, 9, .inl (u 23))) := rfl
theorem xs_23 (ad : Nat → Nat) (cI cB : ClassId) (u : Mem) (j : Nat) (v : Int32) : (XW ad cI cB u).set 23 (ad 23, .inl (cI, 9, .inl (upd (u 23) j v))) = XW ad cI cB (put u 23 j v) := rfl
theorem xc_24 (ad : Nat → Nat) (cI cB : ClassId) (u : Mem) : (XW ad cI cB u)[24]? = some (ad 24, .inl (cI, 9, .inl (u 24))) := rfl
theorem xs_24 (ad : Nat → Nat) (cI cB : ClassId) (u : Mem) (j : Nat) (v : Int32) : (XW ad cI cB u).set 24 (ad 24, .inl (cI, 9, .inl (upd (u 24) j v))) = XW ad cI cB (put u 24 j v) := rfl
theorem xc_25 (ad : Nat → Nat) (cI cB : ClassId) (u : Mem) : (XW ad cI cB u)[25]? = some (ad 25, .inl (cI, 9, .inl (u 25))) := rfl
theorem xs_25 (ad : Nat → Nat) (cI cB : ClassId) (u : Mem) (j : Nat) (v : Int32) : (XW ad cI cB u).set 25 (ad 25, .inl (cI, 9, .inl (upd (u 25) j v))) = XW ad cI cB (put u 25 j v) := rfl
theorem xc_26 (ad : Nat → Nat) (cI cB : ClassId) (u : Mem) : (XW ad cI cB u)[26]? = some (ad 26, .inl (cI, 20, .inl (u 26))) := rfl
theorem xs_26 (ad : Nat → Nat) (cI cB : ClassId) (u : Mem) (j : Nat) (v : Int32) : (XW ad cI cB u).set 26 (ad 26, .inl (cI, 20, .inl (upd (u 26) j v))) = XW ad cI cB (put u 26 j v) := rfl
theorem xc_27 (ad : Nat → Nat) (cI cB : ClassId) (u : Mem) : (XW ad cI cB u)[27]? = some (ad 27, .inl (cI, 20, .inl (u 27))) := rfl
theorem xs_27 (ad : Nat → Nat) (cI cB : ClassId) (u : Mem) (j : Nat) (v : Int32) : (XW ad cI cB u).set 27 (ad 27, .inl (cI, 20, .inl (upd (u 27) j v))) = XW ad cI cB (put u 27 j v) := rfl
theorem xc_28 (ad : Nat → Nat) (cI cB : ClassId) (u : Mem) : (XW ad cI cB u)[28]? = some (ad 28, .inl (cI, 20, .inl (u 28))) := rfl
theorem xs_28 (ad : Nat → Nat) (cI cB : ClassId) (u : Mem) (j : Nat) (v : Int32) : (XW ad cI cB u).set 28 (ad 28, .inl (cI, 20, .inl (upd (u 28) j v))) = XW ad cI cB (put u 28 j v) := rfl
theorem xc_29 (ad : Nat → Nat) (cI cB : ClassId) (u : Mem) : (XW ad cI cB u)[29]? = some (ad 29, .inl (cI, 20, .inl (u 29))) := rfl
theorem xs_29 (ad : Nat → Nat) (cI cB : ClassId) (u : Mem) (j : Nat) (v : Int32) : (XW ad cI cB u).set 29 (ad 29, .inl (cI, 20, .inl (upd (u 29) j v))) = XW ad cI cB (put u 29 j v) := rfl
theorem xc_30 (ad : Nat → Nat) (cI cB : ClassId) (u : Mem) : (XW ad cI cB u)[30]? = some (ad 30, .inl (cI, 20, .inl (u 30))) := rfl
theorem xs_30 (ad : Nat → Nat) (cI cB : ClassId) (u : Mem) (j : Nat) (v : Int32) : (XW ad cI cB u).set 30 (ad 30, .inl (cI, 20, .inl (upd (u 30) j v))) = XW ad cI cB (put u 30 j v) := rfl
theorem xc_31 (ad : Nat → Nat) (cI cB : ClassId) (u : Mem) : (XW ad cI cB u)[31]? = some (ad 31, .inr (4, [.ref (ad 32), .ref (ad 33), .int (u 31 2), .int (u 31 3), .int (u 31 4)])) := rfl
theorem xs_31_2 (ad : Nat → Nat) (cI cB : ClassId) (u : Mem) (v : Int32) : (XW ad cI cB u).set 31 (ad 31, .inr (4, [.ref (ad 32), .ref (ad 33), .int (u 31 2), .int (u 31 3), .int (u 31 4)].set 2 (.int v))) = XW ad cI cB (put u 31 2 v) := rfl
theorem xs_31_3 (ad : Nat → Nat) (cI cB : ClassId) (u : Mem) (v : Int32) : (XW ad cI cB u).set 31 (ad 31, .inr (4, [.ref (ad 32), .ref (ad 33), .int (u 31 2), .int (u 31 3), .int (u 31 4)].set 3 (.int v))) = XW ad cI cB (put u 31 3 v) := rfl
theorem xs_31_4 (ad : Nat → Nat) (cI cB : ClassId) (u : Mem) (v : Int32) : (XW ad cI cB u).set 31 (ad 31, .inr (4, [.ref (ad 32), .ref (ad 33), .int (u 31 2), .int (u 31 3), .int (u 31 4)].set 4 (.int v))) = XW ad cI cB (put u 31 4 v) := rfl
theorem xc_32 (ad : Nat → Nat) (cI cB : ClassId) (u : Mem) : (XW ad cI cB u)[32]? = some (ad 32, .inl (cI, 4, .inl (u 32))) := rfl
theorem xs_32 (ad : Nat → Nat) (cI cB : ClassId) (u : Mem) (j : Nat) (v : Int32) : (XW ad cI cB u).set 32 (ad 32, .inl (cI, 4, .inl (upd (u 32) j v))) = XW ad cI cB (put u 32 j v) := rfl
theorem xc_33 (ad : Nat → Nat) (cI cB : ClassId) (u : Mem) : (XW ad cI cB u)[33]? = some (ad 33, .inl (cI, 4, .inl (u 33))) := rfl
theorem xs_33 (ad : Nat → Nat) (cI cB : ClassId) (u : Mem) (j : Nat) (v : Int32) : (XW ad cI cB u).set 33 (ad 33, .inl (cI, 4, .inl (upd (u 33) j v))) = XW ad cI cB (put u 33 j v) := rfl
theorem xc_34 (ad : Nat → Nat) (cI cB : ClassId) (u : Mem) : (XW ad cI cB u)[34]? = some (ad 34, .inl (cB, 2, .inr (.inr (.inr (.inr (fun j => if j = 0 then some (ad 35) else some (ad 41))))))) := rfl
theorem xc_35 (ad : Nat → Nat) (cI cB : ClassId) (u : Mem) : (XW ad cI cB u)[35]? = some (ad 35, .inr (0, [.int (u 35 0), .int (u 35 1), .ref (ad 36), .ref (ad 37), .ref (ad 38), .ref (ad 39), .ref (ad 40)])) := rfl
theorem xs_35_0 (ad : Nat → Nat) (cI cB : ClassId) (u : Mem) (v : Int32) : (XW ad cI cB u).set 35 (ad 35, .inr (0, [.int (u 35 0), .int (u 35 1), .ref (ad 36), .ref (ad 37), .ref (ad 38), .ref (ad 39), .ref (ad 40)].set 0 (.int v))) = XW ad cI cB (put u 35 0 v) := rfl
theorem xs_35_1 (ad : Nat → Nat) (cI cB : ClassId) (u : Mem) (v : Int32) : (XW ad cI cB u).set 35 (ad 35, .inr (0, [.int (u 35 0), .int (u 35 1), .ref (ad 36), .ref (ad 37), .ref (ad 38), .ref (ad 39), .ref (ad 40)].set 1 (.int v))) = XW ad cI cB (put u 35 1 v) := rfl
theorem xc_36 (ad : Nat → Nat) (cI cB : ClassId) (u : Mem) : (XW ad cI cB u)[36]? = some (ad 36, .inl (cI, 9, .inl (u 36))) := rfl
theorem xs_36 (ad : Nat → Nat) (cI cB : ClassId) (u : Mem) (j : Nat) (v : Int32) : (XW ad cI cB u).set 36 (ad 36, .inl (cI, 9, .inl (upd (u 36) j v))) = XW ad cI cB (put u 36 j v) := rfl
theorem xc_37 (ad : Nat → Nat) (cI cB : ClassId) (u : Mem) : (XW ad cI cB u)[37]? = some (ad 37, .inl (cI, 9, .inl (u 37))) := rfl
theorem xs_37 (ad : Nat → Nat) (cI cB : ClassId) (u : Mem) (j : Nat) (v : Int32) : (XW ad cI cB u).set 37 (ad 37, .inl (cI, 9, .inl (upd (u 37) j v))) = XW ad cI cB (put u 37 j v) := rfl
theorem xc_38 (ad : Nat → Nat) (cI cB : ClassId) (u : Mem) : (XW ad cI cB u)[38]? = some (ad 38, .inl (cI, 9, .inl (u 38))) := rfl
theorem xs_38 (ad : Nat → Nat) (cI cB : ClassId) (u : Mem) (j : Nat) (v : Int32) : (XW ad cI cB u).set 38 (ad 38, .inl (cI, 9, .inl (upd (u 38) j v))) = XW ad cI cB (put u 38 j v) := rfl
theorem xc_39 (ad : Nat → Nat) (cI cB : ClassId) (u : Mem) : (XW ad cI cB u)[39]? = some (ad 39, .inl (cI, 9, .inl (u 39))) := rfl
theorem xs_39 (ad : Nat → Nat) (cI cB : ClassId) (u : Mem) (j : Nat) (v : Int32) : (XW ad cI cB u).set 39 (ad 39, .inl (cI, 9, .inl (upd (u 39) j v))) = XW ad cI cB (put u 39 j v) := rfl
theorem xc_40 (ad : Nat → Nat) (cI cB : ClassId) (u : Mem) : (XW ad cI cB u)[40]? = some (ad 40, .inl (cI, 36, .inl (u 40))) := rfl
theorem xs_40 (ad : Nat → Nat) (cI cB : ClassId) (u : Mem) (j : Nat) (v : Int32) : (XW ad cI cB u).set 40 (ad 40, .inl (cI, 36, .inl (upd (u 40) j v))) = XW ad cI cB (put u 40 j v) := rfl
theorem xc_41 (ad : Nat → Nat) (cI cB : ClassId) (u : Mem) : (XW ad cI cB u)[41]? = some (ad 41, .inr (0, [.int (u 41 0), .int (u 41 1), .ref (ad 42), .ref (ad 43), .ref (ad 44), .ref (ad 45), .ref (ad 46)])) := rfl
theorem xs_41_0 (ad : Nat → Nat) (cI cB : ClassId) (u : Mem) (v : Int32) : (XW ad cI cB u).set 41 (ad 41, .inr (0, [.int (u 41 0), .int (u 41 1), .ref (ad 42), .ref (ad 43), .ref (ad 44), .ref (ad 45), .ref (ad 46)].set 0 (.int v))) = XW ad cI cB (put u 41 0 v) := rfl
theorem xs_41_1 (ad : Nat → Nat) (cI cB : ClassId) (u : Mem) (v : Int32) : (XW ad cI cB u).set 41 (ad 41, .inr (0, [.int (u 41 0), .int (u 41 1), .ref (ad 42), .ref (ad 43), .ref (ad 44), .ref (ad 45), .ref (ad 46)].set 1 (.int v))) = XW ad cI cB (put u 41 1 v) := rfl
theorem xc_42 (ad : Nat → Nat) (cI cB : ClassId) (u : Mem) : (XW ad cI cB u)[42]? = some (ad 42, .inl (cI, 9, .inl (u 42))) := rfl
theorem xs_42 (ad : Nat → Nat) (cI cB : ClassId) (u : Mem) (j : Nat) (v : Int32) : (XW ad cI cB u).set 42 (ad 42, .inl (cI, 9, .inl (upd (u 42) j v))) = XW ad cI cB (put u 42 j v) := rfl
theorem xc_43 (ad : Nat → Nat) (cI cB : ClassId) (u : Mem) : (XW ad cI cB u)[43]? = some (ad 43, .inl (cI, 9, .inl (u 43))) := rfl
theorem xs_43 (ad : Nat → Nat) (cI cB : ClassId) (u : Mem) (j : Nat) (v : Int32) : (XW ad cI cB u).set 43 (ad 43, .inl (cI, 9, .inl (upd (u 43) j v))) = XW ad cI cB (put u 43 j v) := rfl
theorem xc_44 (ad : Nat → Nat) (cI cB : ClassId) (u : Mem) : (XW ad cI cB u)[44]? = some (ad 44, .inl (cI, 9, .inl (u 44))) := rfl
theorem xs_44 (ad : Nat → Nat) (cI cB : ClassId) (u : Mem) (j : Nat) (v : Int32) : (XW ad cI cB u).set 44 (ad 44, .inl (cI, 9, .inl (upd (u 44) j v))) = XW ad cI cB (put u 44 j v) := rfl
theorem xc_45 (ad : Nat → Nat) (cI cB : ClassId) (u : Mem) : (XW ad cI cB u)[45]? = some (ad 45, .inl (cI, 9, .inl (u 45))) := rfl
theorem xs_45 (ad : Nat → Nat) (cI cB : ClassId) (u : Mem) (j : Nat) (v : Int32) : (XW ad cI cB u).set 45 (ad 45, .inl (cI, 9, .inl (upd (u 45) j v))) = XW ad cI cB (put u 45 j v) := rfl
theorem xc_46 (ad : Nat → Nat) (cI cB : ClassId) (u : Mem) : (XW ad cI cB u)[46]? = some (ad 46, .inl (cI, 36, .inl (u 46))) := rfl
theorem xs_46 (ad : Nat → Nat) (cI cB : ClassId) (u : Mem) (j : Nat) (v : Int32) : (XW ad cI cB u).set 46 (ad 46, .inl (cI, 36, .inl (upd (u 46) j v))) = XW ad cI cB (put u 46 j v) := rfl
def MW (ad : Nat → Nat) (cI cZ : ClassId) (u : Mem) : va_W := [(ad 0, .inr (6, [.ref (ad 1), .ref (ad 2), .ref (ad 3), .ref (ad 4), .int (u 0 4), .ref (ad 5), .ref (ad 6), .ref (ad 7), .ref (ad 8), .ref (ad 9), .ref (ad 10), .int (u 0 11), .int (u 0 12), .int (u 0 13), .int (u 0 14), .int (u 0 15), .int (u 0 16), .int (u 0 17), .int (u 0 18), .int (u 0 19), .int (u 0 20), .int (u 0 21), .int (u 0 22), .ref (ad 11), .ref (ad 12), .int (u 0 25), .int (u 0 26), .int (u 0 27), .int (u 0 28)])),
  (ad 1, .inl (cI, 74, .inl (u 1))),
  (ad 2, .inl (cI, 148, .inl (u 2))),
  (ad 3, .inl (cZ, 2, .inl (u 3))),
  (ad 4, .inl (cI, 9, .inl (u 4))),
  (ad 5, .inl (cI, 4, .inl (u 5))),
  (ad 6, .inl (cI, 4, .inl (u 6))),
  (ad 7, .inl (cI, 9, .inl (u 7))),
  (ad 8, .inl (cI, 9, .inl (u 8))),
  (ad 9, .inl (cI, 9, .inl (u 9))),
  (ad 10, .inl (cI, 9, .inl (u 10))),
  (ad 11, .inl (cI, 4, .inl (u 11))),
  (ad 12, .inl (cI, 4, .inl (u 12)))]
theorem MW_D (ad : Nat → Nat) (cI cZ : ClassId) {A : Nat → Prop} (u u1 : Mem) : va_D A (MW ad cI cZ u) → va_D A (MW ad cI cZ u1) := va_D_addr rfl
theorem mc_0 (ad : Nat → Nat) (cI cZ : ClassId) (u : Mem) : (MW ad cI cZ u)[0]? = some (ad 0, .inr (6, [.ref (ad 1), .ref (ad 2), .ref (ad 3), .ref (ad 4), .int (u 0 4), .ref (ad 5), .ref (ad 6), .ref (ad 7), .ref (ad 8), .ref (ad 9), .ref (ad 10), .int (u 0 11), .int (u 0 12), .int (u 0 13), .int (u 0 14), .int (u 0 15), .int (u 0 16), .int (u 0 17), .int (u 0 18), .int (u 0 19), .int (u 0 20), .int (u 0 21), .int (u 0 22), .ref (ad 11), .ref (ad 12), .int (u 0 25), .int (u 0 26), .int (u 0 27), .int (u 0 28)])) := rfl
theorem ms_0_4 (ad : Nat → Nat) (cI cZ : ClassId) (u : Mem) (v : Int32) : (MW ad cI cZ u).set 0 (ad 0, .inr (6, [.ref (ad 1), .ref (ad 2), .ref (ad 3), .ref (ad 4), .int (u 0 4), .ref (ad 5), .ref (ad 6), .ref (ad 7), .ref (ad 8), .ref (ad 9), .ref (ad 10), .int (u 0 11), .int (u 0 12), .int (u 0 13), .int (u 0 14), .int (u 0 15), .int (u 0 16), .int (u 0 17), .int (u 0 18), .int (u 0 19), .int (u 0 20), .int (u 0 21), .int (u 0 22), .ref (ad 11), .ref (ad 12), .int (u 0 25), .int (u 0 26), .int (u 0 27), .int (u 0 28)].set 4 (.int v))) = MW ad cI cZ (put u 0 4 v) := rfl
theorem ms_0_11 (ad : Nat → Nat) (cI cZ : ClassId) (u : Mem) (v : Int32) : (MW ad cI cZ u).set 0 (ad 0, .inr (6, [.ref (ad 1), .ref (ad 2), .ref (ad 3), .ref (ad 4), .int (u 0 4), .ref (ad 5), .ref (ad 6), .ref (ad 7), .ref (ad 8), .ref (ad 9), .ref (ad 10), .int (u 0 11), .int (u 0 12), .int (u 0 13), .int (u 0 14), .int (u 0 15), .int (u 0 16), .int (u 0 17), .int (u 0 18), .int (u 0 19), .int (u 0 20), .int (u 0 21), .int (u 0 22), .ref (ad 11), .ref (ad 12), .int (u 0 25), .int (u 0 26), .int (u 0 27), .int (u 0 28)].set 11 (.int v))) = MW ad cI cZ (put u 0 11 v) := rfl
theorem ms_0_12 (ad : Nat → Nat) (cI cZ : ClassId) (u : Mem) (v : Int32) : (MW ad cI cZ u).set 0 (ad 0, .inr (6, [.ref (ad 1), .ref (ad 2), .ref (ad 3), .ref (ad 4), .int (u 0 4), .ref (ad 5), .ref (ad 6), .ref (ad 7), .ref (ad 8), .ref (ad 9), .ref (ad 10), .int (u 0 11), .int (u 0 12), .int (u 0 13), .int (u 0 14), .int (u 0 15), .int (u 0 16), .int (u 0 17), .int (u 0 18), .int (u 0 19), .int (u 0 20), .int (u 0 21), .int (u 0 22), .ref (ad 11), .ref (ad 12), .int (u 0 25), .int (u 0 26), .int (u 0 27), .int (u 0 28)].set 12 (.int v))) = MW ad cI cZ (put u 0 12 v) := rfl
theorem ms_0_13 (ad : Nat → Nat) (cI cZ : ClassId) (u : Mem) (v : Int32) : (MW ad cI cZ u).set 0 (ad 0, .inr (6, [.ref (ad 1), .ref (ad 2), .ref (ad 3), .ref (ad 4), .int (u 0 4), .ref (ad 5), .ref (ad 6), .ref (ad 7), .ref (ad 8), .ref (ad 9), .ref (ad 10), .int (u 0 11), .int (u 0 12), .int (u 0 13), .int (u 0 14), .int (u 0 15), .int (u 0 16), .int (u 0 17), .int (u 0 18), .int (u 0 19), .int (u 0 20), .int (u 0 21), .int (u 0 22), .ref (ad 11), .ref (ad 12), .int (u 0 25), .int (u 0 26), .int (u 0 27), .int (u 0 28)].set 13 (.int v))) = MW ad cI cZ (put u 0 13 v) := rfl
theorem ms_0_14 (ad : Nat → Nat) (cI cZ : ClassId) (u : Mem) (v : Int32) : (MW ad cI cZ u).set 0 (ad 0, .inr (6, [.ref (ad 1), .ref (ad 2), .ref (ad 3), .ref (ad 4), .int (u 0 4), .ref (ad 5), .ref (ad 6), .ref (ad 7), .ref (ad 8), .ref (ad 9), .ref (ad 10), .int (u 0 11), .int (u 0 12), .int (u 0 13), .int (u 0 14), .int (u 0 15), .int (u 0 16), .int (u 0 17), .int (u 0 18), .int (u 0 19), .int (u 0 20), .int (u 0 21), .int (u 0 22), .ref (ad 11), .ref (ad 12), .int (u 0 25), .int (u 0 26), .int (u 0 27), .int (u 0 28)].set 14 (.int v))) = MW ad cI cZ (put u 0 14 v) := rfl
theorem ms_0_15 (ad : Nat → Nat) (cI cZ : ClassId) (u : Mem) (v : Int32) : (MW ad cI cZ u).set 0 (ad 0, .inr (6, [.ref (ad 1), .ref (ad 2), .ref (ad 3), .ref (ad 4), .int (u 0 4), .ref (ad 5), .ref (ad 6), .ref (ad 7), .ref (ad 8), .ref (ad 9), .ref (ad 10), .int (u 0 11), .int (u 0 12), .int (u 0 13), .int (u 0 14), .int (u 0 15), .int (u 0 16), .int (u 0 17), .int (u 0 18), .int (u 0 19), .int (u 0 20), .int (u 0 21), .int (u 0 22), .ref (ad 11), .ref (ad 12), .int (u 0 25), .int (u 0 26), .int (u 0 27), .int (u 0 28)].set 15 (.int v))) = MW ad cI cZ (put u 0 15 v) := rfl
theorem ms_0_16 (ad : Nat → Nat) (cI cZ : ClassId) (u : Mem) (v : Int32) : (MW ad cI cZ u).set 0 (ad 0, .inr (6, [.ref (ad 1), .ref (ad 2), .ref (ad 3), .ref (ad 4), .int (u 0 4), .ref (ad 5), .ref (ad 6), .ref (ad 7), .ref (ad 8), .ref (ad 9), .ref (ad 10), .int (u 0 11), .int (u 0 12), .int (u 0 13), .int (u 0 14), .int (u 0 15), .int (u 0 16), .int (u 0 17), .int (u 0 18), .int (u 0 19), .int (u 0 20), .int (u 0 21), .int (u 0 22), .ref (ad 11), .ref (ad 12), .int (u 0 25), .int (u 0 26), .int (u 0 27), .int (u 0 28)].set 16 (.int v))) = MW ad cI cZ (put u 0 16 v) := rfl
theorem ms_0_17 (ad : Nat → Nat) (cI cZ : ClassId) (u : Mem) (v : Int32) : (MW ad cI cZ u).set 0 (ad 0, .inr (6, [.ref (ad 1), .ref (ad 2), .ref (ad 3), .ref (ad 4), .int (u 0 4), .ref (ad 5), .ref (ad 6), .ref (ad 7), .ref (ad 8), .ref (ad 9), .ref (ad 10), .int (u 0 11), .int (u 0 12), .int (u 0 13), .int (u 0 14), .int (u 0 15), .int (u 0 16), .int (u 0 17), .int (u 0 18), .int (u 0 19), .int (u 0 20), .int (u 0 21), .int (u 0 22), .ref (ad 11), .ref (ad 12), .int (u 0 25), .int (u 0 26), .int (u 0 27), .int (u 0 28)].set 17 (.int v))) = MW ad cI cZ (put u 0 17 v) := rfl
theorem ms_0_18 (ad : Nat → Nat) (cI cZ : ClassId) (u : Mem) (v : Int32) : (MW ad cI cZ u).set 0 (ad 0, .inr (6, [.ref (ad 1), .ref (ad 2), .ref (ad 3), .ref (ad 4), .int (u 0 4), .ref (ad 5), .ref (ad 6), .ref (ad 7), .ref (ad 8), .ref (ad 9), .ref (ad 10), .int (u 0 11), .int (u 0 12), .int (u 0 13), .int (u 0 14), .int (u 0 15), .int (u 0 16), .int (u 0 17), .int (u 0 18), .int (u 0 19), .int (u 0 20), .int (u 0 21), .int (u 0 22), .ref (ad 11), .ref (ad 12), .int (u 0 25), .int (u 0 26), .int (u 0 27), .int (u 0 28)].set 18 (.int v))) = MW ad cI cZ (put u 0 18 v) := rfl
theorem ms_0_19 (ad : Nat → Nat) (cI cZ : ClassId) (u : Mem) (v : Int32) : (MW ad cI cZ u).set 0 (ad 0, .inr (6, [.ref (ad 1), .ref (ad 2), .ref (ad 3), .ref (ad 4), .int (u 0 4), .ref (ad 5), .ref (ad 6), .ref (ad 7), .ref (ad 8), .ref (ad 9), .ref (ad 10), .int (u 0 11), .int (u 0 12), .int (u 0 13), .int (u 0 14), .int (u 0 15), .int (u 0 16), .int (u 0 17), .int (u 0 18), .int (u 0 19), .int (u 0 20), .int (u 0 21), .int (u 0 22), .ref (ad 11), .ref (ad 12), .int (u 0 25), .int (u 0 26), .int (u 0 27), .int (u 0 28)].set 19 (.int v))) = MW ad cI cZ (put u 0 19 v) := rfl
theorem ms_0_20 (ad : Nat → Nat) (cI cZ : ClassId) (u : Mem) (v : Int32) : (MW ad cI cZ u).set 0 (ad 0, .inr (6, [.ref (ad 1), .ref (ad 2), .ref (ad 3), .ref (ad 4), .int (u 0 4), .ref (ad 5), .ref (ad 6), .ref (ad 7), .ref (ad 8), .ref (ad 9), .ref (ad 10), .int (u 0 11), .int (u 0 12), .int (u 0 13), .int (u 0 14), .int (u 0 15), .int (u 0 16), .int (u 0 17), .int (u 0 18), .int (u 0 19), .int (u 0 20), .int (u 0 21), .int (u 0 22), .ref (ad 11), .ref (ad 12), .int (u 0 25), .int (u 0 26), .int (u 0 27), .int (u 0 28)].set 20 (.int v))) = MW ad cI cZ (put u 0 20 v) := rfl
theorem ms_0_21 (ad : Nat → Nat) (cI cZ : ClassId) (u : Mem) (v : Int32) : (MW ad cI cZ u).set 0 (ad 0, .inr (6, [.ref (ad 1), .ref (ad 2), .ref (ad 3), .ref (ad 4), .int (u 0 4), .ref (ad 5), .ref (ad 6), .ref (ad 7), .ref (ad 8), .ref (ad 9), .ref (ad 10), .int (u 0 11), .int (u 0 12), .int (u 0 13), .int (u 0 14), .int (u 0 15), .int (u 0 16), .int (u 0 17), .int (u 0 18), .int (u 0 19), .int (u 0 20), .int (u 0 21), .int (u 0 22), .ref (ad 11), .ref (ad 12), .int (u 0 25), .int (u 0 26), .int (u 0 27), .int (u 0 28)].set 21 (.int v))) = MW ad cI cZ (put u 0 21 v) := rfl
theorem ms_0_22 (ad : Nat → Nat) (cI cZ : ClassId) (u : Mem) (v : Int32) : (MW ad cI cZ u).set 0 (ad 0, .inr (6, [.ref (ad 1), .ref (ad 2), .ref (ad 3), .ref (ad 4), .int (u 0 4), .ref (ad 5), .ref (ad 6), .ref (ad 7), .ref (ad 8), .ref (ad 9), .ref (ad 10), .int (u 0 11), .int (u 0 12), .int (u 0 13), .int (u 0 14), .int (u 0 15), .int (u 0 16), .int (u 0 17), .int (u 0 18), .int (u 0 19), .int (u 0 20), .int (u 0 21), .int (u 0 22), .ref (ad 11), .ref (ad 12), .int (u 0 25), .int (u 0 26), .int (u 0 27), .int (u 0 28)].set 22 (.int v))) = MW ad cI cZ (put u 0 22 v) := rfl
theorem ms_0_25 (ad : Nat → Nat) (cI cZ : ClassId) (u : Mem) (v : Int32) : (MW ad cI cZ u).set 0 (ad 0, .inr (6, [.ref (ad 1), .ref (ad 2), .ref (ad 3), .ref (ad 4), .int (u 0 4), .ref (ad 5), .ref (ad 6), .ref (ad 7), .ref (ad 8), .ref (ad 9), .ref (ad 10), .int (u 0 11), .int (u 0 12), .int (u 0 13), .int (u 0 14), .int (u 0 15), .int (u 0 16), .int (u 0 17), .int (u 0 18), .int (u 0 19), .int (u 0 20), .int (u 0 21), .int (u 0 22), .ref (ad 11), .ref (ad 12), .int (u 0 25), .int (u 0 26), .int (u 0 27), .int (u 0 28)].set 25 (.int v))) = MW ad cI cZ (put u 0 25 v) := rfl
theorem ms_0_26 (ad : Nat → Nat) (cI cZ : ClassId) (u : Mem) (v : Int32) : (MW ad cI cZ u).set 0 (ad 0, .inr (6, [.ref (ad 1), .ref (ad 2), .ref (ad 3), .ref (ad 4), .int (u 0 4), .ref (ad 5), .ref (ad 6), .ref (ad 7), .ref (ad 8), .ref (ad 9), .ref (ad 10), .int (u 0 11), .int (u 0 12), .int (u 0 13), .int (u 0 14), .int (u 0 15), .int (u 0 16), .int (u 0 17), .int (u 0 18), .int (u 0 19), .int (u 0 20), .int (u 0 21), .int (u 0 22), .ref (ad 11), .ref (ad 12), .int (u 0 25), .int (u 0 26), .int (u 0 27), .int (u 0 28)].set 26 (.int v))) = MW ad cI cZ (put u 0 26 v) := rfl
theorem ms_0_27 (ad : Nat → Nat) (cI cZ : ClassId) (u : Mem) (v : Int32) : (MW ad cI cZ u).set 0 (ad 0, .inr (6, [.ref (ad 1), .ref (ad 2), .ref (ad 3), .ref (ad 4), .int (u 0 4), .ref (ad 5), .ref (ad 6), .ref (ad 7), .ref (ad 8), .ref (ad 9), .ref (ad 10), .int (u 0 11), .int (u 0 12), .int (u 0 13), .int (u 0 14), .int (u 0 15), .int (u 0 16), .int (u 0 17), .int (u 0 18), .int (u 0 19), .int (u 0 20), .int (u 0 21), .int (u 0 22), .ref (ad 11), .ref (ad 12), .int (u 0 25), .int (u 0 26), .int (u 0 27), .int (u 0 28)].set 27 (.int v))) = MW ad cI cZ (put u 0 27 v) := rfl
theorem ms_0_28 (ad : Nat → Nat) (cI cZ : ClassId) (u : Mem) (v : Int32) : (MW ad cI cZ u).set 0 (ad 0, .inr (6, [.ref (ad 1), .ref (ad 2), .ref (ad 3), .ref (ad 4), .int (u 0 4), .ref (ad 5), .ref (ad 6), .ref (ad 7), .ref (ad 8), .ref (ad 9), .ref (ad 10), .int (u 0 11), .int (u 0 12), .int (u 0 13), .int (u 0 14), .int (u 0 15), .int (u 0 16), .int (u 0 17), .int (u 0 18), .int (u 0 19), .int (u 0 20), .int (u 0 21), .int (u 0 22), .ref (ad 11), .ref (ad 12), .int (u 0 25), .int (u 0 26), .int (u 0 27), .int (u 0 28)].set 28 (.int v))) = MW ad cI cZ (put u 0 28 v) := rfl
theorem mc_1 (ad : Nat → Nat) (cI cZ : ClassId) (u : Mem) : (MW ad cI cZ u)[1]? = some (ad 1, .inl (cI, 74, .inl (u 1))) := rfl
theorem ms_1 (ad : Nat → Nat) (cI cZ : ClassId) (u : Mem) (j : Nat) (v : Int32) : (MW ad cI cZ u).set 1 (ad 1, .inl (cI, 74, .inl (upd (u 1) j v))) = MW ad cI cZ (put u 1 j v) := rfl
theorem mc_2 (ad : Nat → Nat) (cI cZ : ClassId) (u : Mem) : (MW ad cI cZ u)[2]? = some (ad 2, .inl (cI, 148, .inl (u 2))) := rfl
theorem ms_2 (ad : Nat → Nat) (cI cZ : ClassId) (u : Mem) (j : Nat) (v : Int32) : (MW ad cI cZ u).set 2 (ad 2, .inl (cI, 148, .inl (upd (u 2) j v))) = MW ad cI cZ (put u 2 j v) := rfl
theorem mc_3 (ad : Nat → Nat) (cI cZ : ClassId) (u : Mem) : (MW ad cI cZ u)[3]? = some (ad 3, .inl (cZ, 2, .inl (u 3))) := rfl
theorem ms_3 (ad : Nat → Nat) (cI cZ : ClassId) (u : Mem) (j : Nat) (v : Int32) : (MW ad cI cZ u).set 3 (ad 3, .inl (cZ, 2, .inl (upd (u 3) j v))) = MW ad cI cZ (put u 3 j v) := rfl
theorem mc_4 (ad : Nat → Nat) (cI cZ : ClassId) (u : Mem) : (MW ad cI cZ u)[4]? = some (ad 4, .inl (cI, 9, .inl (u 4))) := rfl
theorem ms_4 (ad : Nat → Nat) (cI cZ : ClassId) (u : Mem) (j : Nat) (v : Int32) : (MW ad cI cZ u).set 4 (ad 4, .inl (cI, 9, .inl (upd (u 4) j v))) = MW ad cI cZ (put u 4 j v) := rfl
theorem mc_5 (ad : Nat → Nat) (cI cZ : ClassId) (u : Mem) : (MW ad cI cZ u)[5]? = some (ad 5, .inl (cI, 4, .inl (u 5))) := rfl
theorem ms_5 (ad : Nat → Nat) (cI cZ : ClassId) (u : Mem) (j : Nat) (v : Int32) : (MW ad cI cZ u).set 5 (ad 5, .inl (cI, 4, .inl (upd (u 5) j v))) = MW ad cI cZ (put u 5 j v) := rfl
theorem mc_6 (ad : Nat → Nat) (cI cZ : ClassId) (u : Mem) : (MW ad cI cZ u)[6]? = some (ad 6, .inl (cI, 4, .inl (u 6))) := rfl
theorem ms_6 (ad : Nat → Nat) (cI cZ : ClassId) (u : Mem) (j : Nat) (v : Int32) : (MW ad cI cZ u).set 6 (ad 6, .inl (cI, 4, .inl (upd (u 6) j v))) = MW ad cI cZ (put u 6 j v) := rfl
theorem mc_7 (ad : Nat → Nat) (cI cZ : ClassId) (u : Mem) : (MW ad cI cZ u)[7]? = some (ad 7, .inl (cI, 9, .inl (u 7))) := rfl
theorem ms_7 (ad : Nat → Nat) (cI cZ : ClassId) (u : Mem) (j : Nat) (v : Int32) : (MW ad cI cZ u).set 7 (ad 7, .inl (cI, 9, .inl (upd (u 7) j v))) = MW ad cI cZ (put u 7 j v) := rfl
theorem mc_8 (ad : Nat → Nat) (cI cZ : ClassId) (u : Mem) : (MW ad cI cZ u)[8]? = some (ad 8, .inl (cI, 9, .inl (u 8))) := rfl
theorem ms_8 (ad : Nat → Nat) (cI cZ : ClassId) (u : Mem) (j : Nat) (v : Int32) : (MW ad cI cZ u).set 8 (ad 8, .inl (cI, 9, .inl (upd (u 8) j v))) = MW ad cI cZ (put u 8 j v) := rfl
theorem mc_9 (ad : Nat → Nat) (cI cZ : ClassId) (u : Mem) : (MW ad cI cZ u)[9]? = some (ad 9, .inl (cI, 9, .inl (u 9))) := rfl
theorem ms_9 (ad : Nat → Nat) (cI cZ : ClassId) (u : Mem) (j : Nat) (v : Int32) : (MW ad cI cZ u).set 9 (ad 9, .inl (cI, 9, .inl (upd (u 9) j v))) = MW ad cI cZ (put u 9 j v) := rfl
theorem mc_10 (ad : Nat → Nat) (cI cZ : ClassId) (u : Mem) : (MW ad cI cZ u)[10]? = some (ad 10, .inl (cI, 9, .inl (u 10))) := rfl
theorem ms_10 (ad : Nat → Nat) (cI cZ : ClassId) (u : Mem) (j : Nat) (v : Int32) : (MW ad cI cZ u).set 10 (ad 10, .inl (cI, 9, .inl (upd (u 10) j v))) = MW ad cI cZ (put u 10 j v) := rfl
theorem mc_11 (ad : Nat → Nat) (cI cZ : ClassId) (u : Mem) : (MW ad cI cZ u)[11]? = some (ad 11, .inl (cI, 4, .inl (u 11))) := rfl
theorem ms_11 (ad : Nat → Nat) (cI cZ : ClassId) (u : Mem) (j : Nat) (v : Int32) : (MW ad cI cZ u).set 11 (ad 11, .inl (cI, 4, .inl (upd (u 11) j v))) = MW ad cI cZ (put u 11 j v) := rfl
theorem mc_12 (ad : Nat → Nat) (cI cZ : ClassId) (u : Mem) : (MW ad cI cZ u)[12]? = some (ad 12, .inl (cI, 4, .inl (u 12))) := rfl
theorem ms_12 (ad : Nat → Nat) (cI cZ : ClassId) (u : Mem) (j : Nat) (v : Int32) : (MW ad cI cZ u).set 12 (ad 12, .inl (cI, 4, .inl (upd (u 12) j v))) = MW ad cI cZ (put u 12 j v) := rfl
theorem xcp_2_36 (ad : Nat → Nat) (cI cB : ClassId) (u : Mem) (n : Nat) : (XW ad cI cB u).set 36 (ad 36, .inl (cI, 9, .inl (va_cpy (u 2) (u 36) 0 0 n))) = XW ad cI cB (cpy u 2 36 n) := rfl
theorem xcp_2_42 (ad : Nat → Nat) (cI cB : ClassId) (u : Mem) (n : Nat) : (XW ad cI cB u).set 42 (ad 42, .inl (cI, 9, .inl (va_cpy (u 2) (u 42) 0 0 n))) = XW ad cI cB (cpy u 2 42 n) := rfl
theorem xcp_3_37 (ad : Nat → Nat) (cI cB : ClassId) (u : Mem) (n : Nat) : (XW ad cI cB u).set 37 (ad 37, .inl (cI, 9, .inl (va_cpy (u 3) (u 37) 0 0 n))) = XW ad cI cB (cpy u 3 37 n) := rfl
theorem xcp_3_43 (ad : Nat → Nat) (cI cB : ClassId) (u : Mem) (n : Nat) : (XW ad cI cB u).set 43 (ad 43, .inl (cI, 9, .inl (va_cpy (u 3) (u 43) 0 0 n))) = XW ad cI cB (cpy u 3 43 n) := rfl
theorem xcp_4_38 (ad : Nat → Nat) (cI cB : ClassId) (u : Mem) (n : Nat) : (XW ad cI cB u).set 38 (ad 38, .inl (cI, 9, .inl (va_cpy (u 4) (u 38) 0 0 n))) = XW ad cI cB (cpy u 4 38 n) := rfl
theorem xcp_4_44 (ad : Nat → Nat) (cI cB : ClassId) (u : Mem) (n : Nat) : (XW ad cI cB u).set 44 (ad 44, .inl (cI, 9, .inl (va_cpy (u 4) (u 44) 0 0 n))) = XW ad cI cB (cpy u 4 44 n) := rfl
theorem xcp_5_39 (ad : Nat → Nat) (cI cB : ClassId) (u : Mem) (n : Nat) : (XW ad cI cB u).set 39 (ad 39, .inl (cI, 9, .inl (va_cpy (u 5) (u 39) 0 0 n))) = XW ad cI cB (cpy u 5 39 n) := rfl
theorem xcp_5_45 (ad : Nat → Nat) (cI cB : ClassId) (u : Mem) (n : Nat) : (XW ad cI cB u).set 45 (ad 45, .inl (cI, 9, .inl (va_cpy (u 5) (u 45) 0 0 n))) = XW ad cI cB (cpy u 5 45 n) := rfl
theorem xcp_6_40 (ad : Nat → Nat) (cI cB : ClassId) (u : Mem) (n : Nat) : (XW ad cI cB u).set 40 (ad 40, .inl (cI, 36, .inl (va_cpy (u 6) (u 40) 0 0 n))) = XW ad cI cB (cpy u 6 40 n) := rfl
theorem xcp_6_46 (ad : Nat → Nat) (cI cB : ClassId) (u : Mem) (n : Nat) : (XW ad cI cB u).set 46 (ad 46, .inl (cI, 36, .inl (va_cpy (u 6) (u 46) 0 0 n))) = XW ad cI cB (cpy u 6 46 n) := rfl
theorem xcp_32_33 (ad : Nat → Nat) (cI cB : ClassId) (u : Mem) (n : Nat) : (XW ad cI cB u).set 33 (ad 33, .inl (cI, 4, .inl (va_cpy (u 32) (u 33) 0 0 n))) = XW ad cI cB (cpy u 32 33 n) := rfl
theorem xcp_36_2 (ad : Nat → Nat) (cI cB : ClassId) (u : Mem) (n : Nat) : (XW ad cI cB u).set 2 (ad 2, .inl (cI, 9, .inl (va_cpy (u 36) (u 2) 0 0 n))) = XW ad cI cB (cpy u 36 2 n) := rfl
theorem xcp_37_3 (ad : Nat → Nat) (cI cB : ClassId) (u : Mem) (n : Nat) : (XW ad cI cB u).set 3 (ad 3, .inl (cI, 9, .inl (va_cpy (u 37) (u 3) 0 0 n))) = XW ad cI cB (cpy u 37 3 n) := rfl
theorem xcp_38_4 (ad : Nat → Nat) (cI cB : ClassId) (u : Mem) (n : Nat) : (XW ad cI cB u).set 4 (ad 4, .inl (cI, 9, .inl (va_cpy (u 38) (u 4) 0 0 n))) = XW ad cI cB (cpy u 38 4 n) := rfl
theorem xcp_39_5 (ad : Nat → Nat) (cI cB : ClassId) (u : Mem) (n : Nat) : (XW ad cI cB u).set 5 (ad 5, .inl (cI, 9, .inl (va_cpy (u 39) (u 5) 0 0 n))) = XW ad cI cB (cpy u 39 5 n) := rfl
theorem xcp_40_6 (ad : Nat → Nat) (cI cB : ClassId) (u : Mem) (n : Nat) : (XW ad cI cB u).set 6 (ad 6, .inl (cI, 36, .inl (va_cpy (u 40) (u 6) 0 0 n))) = XW ad cI cB (cpy u 40 6 n) := rfl
theorem xcp_42_2 (ad : Nat → Nat) (cI cB : ClassId) (u : Mem) (n : Nat) : (XW ad cI cB u).set 2 (ad 2, .inl (cI, 9, .inl (va_cpy (u 42) (u 2) 0 0 n))) = XW ad cI cB (cpy u 42 2 n) := rfl
theorem xcp_43_3 (ad : Nat → Nat) (cI cB : ClassId) (u : Mem) (n : Nat) : (XW ad cI cB u).set 3 (ad 3, .inl (cI, 9, .inl (va_cpy (u 43) (u 3) 0 0 n))) = XW ad cI cB (cpy u 43 3 n) := rfl
theorem xcp_44_4 (ad : Nat → Nat) (cI cB : ClassId) (u : Mem) (n : Nat) : (XW ad cI cB u).set 4 (ad 4, .inl (cI, 9, .inl (va_cpy (u 44) (u 4) 0 0 n))) = XW ad cI cB (cpy u 44 4 n) := rfl
theorem xcp_45_5 (ad : Nat → Nat) (cI cB : ClassId) (u : Mem) (n : Nat) : (XW ad cI cB u).set 5 (ad 5, .inl (cI, 9, .inl (va_cpy (u 45) (u 5) 0 0 n))) = XW ad cI cB (cpy u 45 5 n) := rfl
theorem xcp_46_6 (ad : Nat → Nat) (cI cB : ClassId) (u : Mem) (n : Nat) : (XW ad cI cB u).set 6 (ad 6, .inl (cI, 36, .inl (va_cpy (u 46) (u 6) 0 0 n))) = XW ad cI cB (cpy u 46 6 n) := rfl
