def e_X0_copyFrom_35_1 (u : Mem)  : Option Mem :=
  if decide (0 ≤ ((9 : Int32)).toInt ∧ ((9 : Int32)).toNatClampNeg ≤ 9 ∧ ((9 : Int32)).toNatClampNeg ≤ 9) = true then if decide (0 ≤ ((9 : Int32)).toInt ∧ ((9 : Int32)).toNatClampNeg ≤ 9 ∧ ((9 : Int32)).toNatClampNeg ≤ 9) = true then if decide (0 ≤ ((9 : Int32)).toInt ∧ ((9 : Int32)).toNatClampNeg ≤ 9 ∧ ((9 : Int32)).toNatClampNeg ≤ 9) = true then if decide (0 ≤ ((9 : Int32)).toInt ∧ ((9 : Int32)).toNatClampNeg ≤ 9 ∧ ((9 : Int32)).toNatClampNeg ≤ 9) = true then if decide (0 ≤ ((36 : Int32)).toInt ∧ ((36 : Int32)).toNatClampNeg ≤ 36 ∧ ((36 : Int32)).toNatClampNeg ≤ 36) = true then some (cpy (cpy (cpy (cpy (cpy (put (put u 35 0 (u 1 0)) 35 1 (u 1 1)) 2 36 ((9 : Int32)).toNatClampNeg) 3 37 ((9 : Int32)).toNatClampNeg) 4 38 ((9 : Int32)).toNatClampNeg) 5 39 ((9 : Int32)).toNatClampNeg) 6 40 ((36 : Int32)).toNatClampNeg) else none else none else none else none else none
def e_X0_copyFrom_41_1 (u : Mem)  : Option Mem :=
  if decide (0 ≤ ((9 : Int32)).toInt ∧ ((9 : Int32)).toNatClampNeg ≤ 9 ∧ ((9 : Int32)).toNatClampNeg ≤ 9) = true then if decide (0 ≤ ((9 : Int32)).toInt ∧ ((9 : Int32)).toNatClampNeg ≤ 9 ∧ ((9 : Int32)).toNatClampNeg ≤ 9) = true then if decide (0 ≤ ((9 : Int32)).toInt ∧ ((9 : Int32)).toNatClampNeg ≤ 9 ∧ ((9 : Int32)).toNatClampNeg ≤ 9) = true then if decide (0 ≤ ((9 : Int32)).toInt ∧ ((9 : Int32)).toNatClampNeg ≤ 9 ∧ ((9 : Int32)).toNatClampNeg ≤ 9) = true then if decide (0 ≤ ((36 : Int32)).toInt ∧ ((36 : Int32)).toNatClampNeg ≤ 36 ∧ ((36 : Int32)).toNatClampNeg ≤ 36) = true then some (cpy (cpy (cpy (cpy (cpy (put (put u 41 0 (u 1 0)) 41 1 (u 1 1)) 2 42 ((9 : Int32)).toNatClampNeg) 3 43 ((9 : Int32)).toNatClampNeg) 4 44 ((9 : Int32)).toNatClampNeg) 5 45 ((9 : Int32)).toNatClampNeg) 6 46 ((36 : Int32)).toNatClampNeg) else none else none else none else none else none
def e_X0_copyFrom_1_35 (u : Mem)  : Option Mem :=
  if decide (0 ≤ ((9 : Int32)).toInt ∧ ((9 : Int32)).toNatClampNeg ≤ 9 ∧ ((9 : Int32)).toNatClampNeg ≤ 9) = true then if decide (0 ≤ ((9 : Int32)).toInt ∧ ((9 : Int32)).toNatClampNeg ≤ 9 ∧ ((9 : Int32)).toNatClampNeg ≤ 9) = true then if decide (0 ≤ ((9 : Int32)).toInt ∧ ((9 : Int32)).toNatClampNeg ≤ 9 ∧ ((9 : Int32)).toNatClampNeg ≤ 9) = true then if decide (0 ≤ ((9 : Int32)).toInt ∧ ((9 : Int32)).toNatClampNeg ≤ 9 ∧ ((9 : Int32)).toNatClampNeg ≤ 9) = true then if decide (0 ≤ ((36 : Int32)).toInt ∧ ((36 : Int32)).toNatClampNeg ≤ 36 ∧ ((36 : Int32)).toNatClampNeg ≤ 36) = true then some (cpy (cpy (cpy (cpy (cpy (put (put u 1 0 (u 35 0)) 1 1 (u 35 1)) 36 2 ((9 : Int32)).toNatClampNeg) 37 3 ((9 : Int32)).toNatClampNeg) 38 4 ((9 : Int32)).toNatClampNeg) 39 5 ((9 : Int32)).toNatClampNeg) 40 6 ((36 : Int32)).toNatClampNeg) else none else none else none else none else none
def e_X0_copyFrom_1_41 (u : Mem)  : Option Mem :=
  if decide (0 ≤ ((9 : Int32)).toInt ∧ ((9 : Int32)).toNatClampNeg ≤ 9 ∧ ((9 : Int32)).toNatClampNeg ≤ 9) = true then if decide (0 ≤ ((9 : Int32)).toInt ∧ ((9 : Int32)).toNatClampNeg ≤ 9 ∧ ((9 : Int32)).toNatClampNeg ≤ 9) = true then if decide (0 ≤ ((9 : Int32)).toInt ∧ ((9 : Int32)).toNatClampNeg ≤ 9 ∧ ((9 : Int32)).toNatClampNeg ≤ 9) = true then if decide (0 ≤ ((9 : Int32)).toInt ∧ ((9 : Int32)).toNatClampNeg ≤ 9 ∧ ((9 : Int32)).toNatClampNeg ≤ 9) = true then if decide (0 ≤ ((36 : Int32)).toInt ∧ ((36 : Int32)).toNatClampNeg ≤ 36 ∧ ((36 : Int32)).toNatClampNeg ≤ 36) = true then some (cpy (cpy (cpy (cpy (cpy (put (put u 1 0 (u 41 0)) 1 1 (u 41 1)) 42 2 ((9 : Int32)).toNatClampNeg) 43 3 ((9 : Int32)).toNatClampNeg) 44 4 ((9 : Int32)).toNatClampNeg) 45 5 ((9 : Int32)).toNatClampNeg) 46 6 ((36 : Int32)).toNatClampNeg) else none else none else none else none else none
def e_X0_has (u : Mem) (x1 : Int32) : Option (Int32 × Mem) :=
  if x1 < 0 then (some ((0 : Int32), u)) else (if (u 1 0) ≤ x1 then (some ((0 : Int32), u)) else (some ((1 : Int32), u)))
def e_X0_feature (u : Mem) (x1 : Int32) (x2 : Int32) : Option (Int32 × Mem) :=
  if x2 = (0 : Int32) then (if inb x1 9 = true then some ((u 2 (x1).toNatClampNeg), u) else none) else (if x2 = (1 : Int32) then (if inb x1 9 = true then some ((u 3 (x1).toNatClampNeg), u) else none) else (if x2 = (2 : Int32) then (if inb x1 9 = true then some ((u 4 (x1).toNatClampNeg), u) else none) else (if inb x1 9 = true then some ((u 5 (x1).toNatClampNeg), u) else none)))
def e_X0_isSpread (u : Mem) (x1 : Int32) : Option (Int32 × Mem) :=
  if inb x1 9 = true then if (u 4 (x1).toNatClampNeg) = (2 : Int32) then (some ((1 : Int32), u)) else (some ((0 : Int32), u)) else none
def e_X0_wantsOwnTier (u : Mem) (x1 : Int32) : Option (Int32 × Mem) :=
  if inb x1 9 = true then if (u 4 (x1).toNatClampNeg) = (1 : Int32) then (some ((1 : Int32), u)) else (if inb x1 9 = true then if (u 4 (x1).toNatClampNeg) = (2 : Int32) then (some ((1 : Int32), u)) else (some ((0 : Int32), u)) else none) else none
def e_X0_wantsLeftPage (u : Mem) (x1 : Int32) : Option (Int32 × Mem) :=
  if inb x1 9 = true then if (u 4 (x1).toNatClampNeg) = (2 : Int32) then (some ((1 : Int32), u)) else (if inb x1 9 = true then if (u 4 (x1).toNatClampNeg) = (3 : Int32) then (some ((1 : Int32), u)) else (some ((0 : Int32), u)) else none) else none
def e_X0_speakerColumn (u : Mem) (x1 : Int32) (x2 : Int32) : Option (Int32 × Mem) :=
  if inb ((x1 * (4 : Int32)) + x2) 36 = true then some ((u 6 (((x1 * (4 : Int32)) + x2)).toNatClampNeg), u) else none
def e_X0_allBalloons_L4_b (go : Mem → Int32 → Int32 → Option (Int32 × Mem)) (u : Mem) (x1 : Int32) (x2 : Int32) : Option (Int32 × Mem) :=
  if (u 1 0) ≤ x2 then (some (x1, u)) else (if inb x2 9 = true then go u (x1 + (u 5 (x2).toNatClampNeg)) (x2 + (1 : Int32)) else none)
def e_X0_allBalloons_L4 : Nat → Mem → Int32 → Int32 → Option (Int32 × Mem)
  | 0 => fun _ _ _ => none
  | f + 1 => e_X0_allBalloons_L4_b (e_X0_allBalloons_L4 f)
def e_X0_allBalloons (u : Mem)  : Option (Int32 × Mem) :=
  e_X0_allBalloons_L4 FU u (0 : Int32) (0 : Int32)
def e_X0_tierHeight_L5_b (go : Mem → Int32 → Int32 → Int32 → Int32 → Option (Int32 × Mem)) (u : Mem) (x1 : Int32) (x2 : Int32) (x3 : Int32) (x4 : Int32) : Option (Int32 × Mem) :=
  if (x1 + x2) ≤ x4 then (some (x3, u)) else (if inb x4 9 = true then go u x1 x2 (if x3 < (u 3 (x4).toNatClampNeg) then (u 3 (x4).toNatClampNeg) else x3) (x4 + (1 : Int32)) else none)
def e_X0_tierHeight_L5 : Nat → Mem → Int32 → Int32 → Int32 → Int32 → Option (Int32 × Mem)
  | 0 => fun _ _ _ _ _ => none
  | f + 1 => e_X0_tierHeight_L5_b (e_X0_tierHeight_L5 f)
def e_X0_tierHeight (u : Mem) (x1 : Int32) (x2 : Int32) : Option (Int32 × Mem) :=
  e_X0_tierHeight_L5 FU u x1 x2 (0 : Int32) x1
def e_X0_tierGaps_L13_b (go : Mem → Int32 → Int32 → Int32 → Int32 → Int32 → Option (Int32 × Mem)) (u : Mem) (x1 : Int32) (x2 : Int32) (x3 : Int32) (x4 : Int32) (x5 : Int32) : Option (Int32 × Mem) :=
  if (x1 + x2) ≤ x5 then (some (x4, u)) else (if inb x5 9 = true then go u x1 x2 x3 (x4 + (x3 - (u 3 (x5).toNatClampNeg))) (x5 + (1 : Int32)) else none)
def e_X0_tierGaps_L13 : Nat → Mem → Int32 → Int32 → Int32 → Int32 → Int32 → Option (Int32 × Mem)
  | 0 => fun _ _ _ _ _ _ => none
  | f + 1 => e_X0_tierGaps_L13_b (e_X0_tierGaps_L13 f)
def e_X0_tierGaps (u : Mem) (x1 : Int32) (x2 : Int32) : Option (Int32 × Mem) :=
  bnd (e_X0_tierHeight u x1 x2) (fun r1 u1 => e_X0_tierGaps_L13 FU u1 x1 x2 r1 (0 : Int32) x1)
def e_X0_tierWidth_J135 (k70 : Mem → Int32 → Int32 → Int32 → Int32 → Int32 → Int32 → Int32 → Int32 → Option (Int32 × Mem)) (u : Mem) (x1 : Int32) (x2 : Int32) (x4 : Int32) (x5 : Int32) (x6 : Int32) (x7 : Int32) (x8 : Int32) (x9 : Int32) : Option (Int32 × Mem) :=
  k70 u x1 x2 x4 x5 x6 x7 x8 (x9 + (1 : Int32))
def e_X0_tierWidth_J132 (k70 : Mem → Int32 → Int32 → Int32 → Int32 → Int32 → Int32 → Int32 → Int32 → Option (Int32 × Mem)) (u : Mem) (x1 : Int32) (x2 : Int32) (x4 : Int32) (x5 : Int32) (x6 : Int32) (x7 : Int32) (x8 : Int32) (x9 : Int32) : Option (Int32 × Mem) :=
  e_X0_tierWidth_J135 k70 u x1 x2 x4 x5 x6 x7 (x8 + (1 : Int32)) x9
def e_X0_tierWidth_L70_b (go : Mem → Int32 → Int32 → Int32 → Int32 → Int32 → Int32 → Int32 → Int32 → Option (Int32 × Mem)) (u : Mem) (x1 : Int32) (x2 : Int32) (x4 : Int32) (x5 : Int32) (x6 : Int32) (x7 : Int32) (x8 : Int32) (x9 : Int32) : Option (Int32 × Mem) :=
  if (x1 + x2) ≤ x9 then (if inb x5 9 = true then if x4 = 0 then none else if x7 ≤ x8 then (some (((((12 : Int32) * (u 2 (x5).toNatClampNeg)) / x4) + (0 : Int32)), u)) else (some (((((12 : Int32) * (u 2 (x5).toNatClampNeg)) / x4) + (1 : Int32)), u)) else none) else (if inb x9 9 = true then if x4 = 0 then none else if inb x9 9 = true then if x4 = 0 then none else if x6 < (((12 : Int32) * (u 2 (x9).toNatClampNeg)) - ((12 : Int32) * (u 2 (x9).toNatClampNeg)) / x4 * x4) then (e_X0_tierWidth_J132 go u x1 x2 x4 x5 x6 (x7 - (((12 : Int32) * (u 2 (x9).toNatClampNeg)) / x4)) x8 x9) else (if (((12 : Int32) * (u 2 (x9).toNatClampNeg)) - ((12 : Int32) * (u 2 (x9).toNatClampNeg)) / x4 * x4) = x6 then (if x5 ≤ x9 then (e_X0_tierWidth_J135 go u x1 x2 x4 x5 x6 (x7 - (((12 : Int32) * (u 2 (x9).toNatClampNeg)) / x4)) x8 x9) else (e_X0_tierWidth_J132 go u x1 x2 x4 x5 x6 (x7 - (((12 : Int32) * (u 2 (x9).toNatClampNeg)) / x4)) x8 x9)) else (e_X0_tierWidth_J135 go u x1 x2 x4 x5 x6 (x7 - (((12 : Int32) * (u 2 (x9).toNatClampNeg)) / x4)) x8 x9)) else none else none)
def e_X0_tierWidth_L70 : Nat → Mem → Int32 → Int32 → Int32 → Int32 → Int32 → Int32 → Int32 → Int32 → Option (Int32 × Mem)
  | 0 => fun _ _ _ _ _ _ _ _ _ => none
  | f + 1 => e_X0_tierWidth_L70_b (e_X0_tierWidth_L70 f)
def e_X0_tierWidth_L6_b (go : Mem → Int32 → Int32 → Int32 → Int32 → Int32 → Option (Int32 × Mem)) (u : Mem) (x1 : Int32) (x2 : Int32) (x3 : Int32) (x4 : Int32) (x5 : Int32) : Option (Int32 × Mem) :=
  if (x1 + x2) ≤ x5 then (if (1 : Int32) ≤ x4 then (if inb (x1 + x3) 9 = true then if x4 = 0 then none else e_X0_tierWidth_L70 FU u x1 x2 x4 (x1 + x3) (((12 : Int32) * (u 2 ((x1 + x3)).toNatClampNeg)) - ((12 : Int32) * (u 2 ((x1 + x3)).toNatClampNeg)) / x4 * x4) (12 : Int32) (0 : Int32) x1 else none) else (some ((0 : Int32), u))) else (if inb x5 9 = true then go u x1 x2 x3 (x4 + (u 2 (x5).toNatClampNeg)) (x5 + (1 : Int32)) else none)
def e_X0_tierWidth_L6 : Nat → Mem → Int32 → Int32 → Int32 → Int32 → Int32 → Option (Int32 × Mem)
  | 0 => fun _ _ _ _ _ _ => none
  | f + 1 => e_X0_tierWidth_L6_b (e_X0_tierWidth_L6 f)
def e_X0_tierWidth (u : Mem) (x1 : Int32) (x2 : Int32) (x3 : Int32) : Option (Int32 × Mem) :=
  e_X0_tierWidth_L6 FU u x1 x2 x3 (0 : Int32) x1
def e_X2_add (u : Mem) (x1 : Int32) : Option Mem :=
  if (9 : Int32) ≤ (u 7 0) then (some u) else (if inb (u 7 0) 9 = true then some (put (put u 8 ((u 7 0)).toNatClampNeg x1) 7 0 ((u 7 0) + (1 : Int32))) else none)
def e_X2_figure (u : Mem) (x1 : Int32) : Option (Int32 × Mem) :=
  if inb x1 9 = true then some (((u 8 (x1).toNatClampNeg) - (48 : Int32)), u) else none
def e_X2_isFigure (u : Mem) (x1 : Int32) (x2 : Int32) : Option (Int32 × Mem) :=
  bnd (e_X2_figure u x1) (fun r1 u1 => if r1 < 0 then (some ((0 : Int32), u1)) else (bnd (e_X2_figure u1 x1) (fun r2 u2 => if x2 < r2 then (some ((0 : Int32), u2)) else (some ((1 : Int32), u2)))))
def e_X2_hasOnlyFigures_L2_b (go : Mem → Int32 → Int32 → Option (Int32 × Mem)) (u : Mem) (x1 : Int32) (x2 : Int32) : Option (Int32 × Mem) :=
  if (u 7 0) ≤ x2 then (some ((1 : Int32), u)) else (bnd (e_X2_isFigure u x2 x1) (fun r1 u1 => if r1 = 0 then (some ((0 : Int32), u1)) else (go u1 x1 (x2 + (1 : Int32)))))
def e_X2_hasOnlyFigures_L2 : Nat → Mem → Int32 → Int32 → Option (Int32 × Mem)
  | 0 => fun _ _ _ => none
  | f + 1 => e_X2_hasOnlyFigures_L2_b (e_X2_hasOnlyFigures_L2 f)
def e_X2_hasOnlyFigures (u : Mem) (x1 : Int32) : Option (Int32 × Mem) :=
  e_X2_hasOnlyFigures_L2 FU u x1 (0 : Int32)
def e_X1_pageHeightWith (u : Mem) (x2 : Int32) (x3 : Int32) : Option (Int32 × Mem) :=
  if inb x2 9 = true then if x3 = (2 : Int32) then (some ((u 3 (x2).toNatClampNeg), u)) else (if (1 : Int32) ≤ x2 then (if x3 = (1 : Int32) then (if inb (x2 - (1 : Int32)) 9 = true then if inb (x2 - (1 : Int32)) 9 = true then some ((((u 14 ((x2 - (1 : Int32))).toNatClampNeg) + (u 15 ((x2 - (1 : Int32))).toNatClampNeg)) + (u 3 (x2).toNatClampNeg)), u) else none else none) else (if inb (x2 - (1 : Int32)) 9 = true then if inb (x2 - (1 : Int32)) 9 = true then some (((u 14 ((x2 - (1 : Int32))).toNatClampNeg) + (if (u 15 ((x2 - (1 : Int32))).toNatClampNeg) < (u 3 (x2).toNatClampNeg) then (u 3 (x2).toNatClampNeg) else (u 15 ((x2 - (1 : Int32))).toNatClampNeg))), u) else none else none)) else (some ((u 3 (x2).toNatClampNeg), u))) else none
def e_X1_whyNot_J81 (u : Mem) (x2 : Int32) (x3 : Int32) : Option (Int32 × Mem) :=
  bnd (e_X0_isSpread u x2) (fun r5 u5 => if r5 = 0 then (bnd (e_X1_pageHeightWith u5 x2 x3) (fun r6 u6 => if r6 ≤ (u6 1 1) then (some ((0 : Int32), u6)) else (some ((5 : Int32), u6)))) else (some ((0 : Int32), u5)))
def e_X1_whyNot_J56 (u : Mem) (x2 : Int32) (x3 : Int32) : Option (Int32 × Mem) :=
  if x3 = (2 : Int32) then (e_X1_whyNot_J81 u x2 x3) else (bnd (e_X0_wantsLeftPage u x2) (fun r3 u3 => if r3 = 0 then (bnd (e_X0_isSpread u3 (x2 - (1 : Int32))) (fun r4 u4 => if r4 = 0 then (e_X1_whyNot_J81 u4 x2 x3) else (some ((4 : Int32), u4)))) else (some ((4 : Int32), u3))))
def e_X1_whyNot_J32 (u : Mem) (x2 : Int32) (x3 : Int32) : Option (Int32 × Mem) :=
  if x3 = 0 then (bnd (e_X0_wantsOwnTier u x2) (fun r1 u1 => if r1 = 0 then (bnd (e_X0_wantsOwnTier u1 (x2 - (1 : Int32))) (fun r2 u2 => if r2 = 0 then (e_X1_whyNot_J56 u2 x2 x3) else (some ((3 : Int32), u2)))) else (some ((3 : Int32), u1)))) else (e_X1_whyNot_J56 u x2 x3)
def e_X1_whyNot_J12 (u : Mem) (x2 : Int32) (x3 : Int32) : Option (Int32 × Mem) :=
  if x3 = 0 then (if inb (x2 - (1 : Int32)) 9 = true then if ((u 13 ((x2 - (1 : Int32))).toNatClampNeg) + (1 : Int32)) < (4 : Int32) then (e_X1_whyNot_J32 u x2 x3) else (some ((2 : Int32), u)) else none) else (e_X1_whyNot_J32 u x2 x3)
def e_X1_whyNot (u : Mem) (x2 : Int32) (x3 : Int32) : Option (Int32 × Mem) :=
  if x3 = (2 : Int32) then (e_X1_whyNot_J12 u x2 x3) else (if (1 : Int32) ≤ x2 then (e_X1_whyNot_J12 u x2 x3) else (some ((1 : Int32), u)))
def e_X1_beginPage (u : Mem) (x2 : Int32) : Option Mem :=
  if inb x2 9 = true then if inb x2 9 = true then if inb x2 9 = true then if inb x2 9 = true then if inb x2 9 = true then if inb x2 9 = true then some (put (put (put (put (put u 12 (x2).toNatClampNeg (0 : Int32)) 13 (x2).toNatClampNeg (0 : Int32)) 14 (x2).toNatClampNeg (0 : Int32)) 15 (x2).toNatClampNeg (u 3 (x2).toNatClampNeg)) 16 (x2).toNatClampNeg (0 : Int32)) else none else none else none else none else none else none
def e_X1_beginTier (u : Mem) (x2 : Int32) : Option Mem :=
  if inb (x2 - (1 : Int32)) 9 = true then if inb x2 9 = true then if inb x2 9 = true then if inb (x2 - (1 : Int32)) 9 = true then if inb (x2 - (1 : Int32)) 9 = true then if inb x2 9 = true then if inb x2 9 = true then if inb x2 9 = true then if inb (x2 - (1 : Int32)) 9 = true then if inb x2 9 = true then some (put (put (put (put (put u 12 (x2).toNatClampNeg ((u 12 ((x2 - (1 : Int32))).toNatClampNeg) + (1 : Int32))) 13 (x2).toNatClampNeg (0 : Int32)) 14 (x2).toNatClampNeg ((u 14 ((x2 - (1 : Int32))).toNatClampNeg) + (u 15 ((x2 - (1 : Int32))).toNatClampNeg))) 15 (x2).toNatClampNeg (u 3 (x2).toNatClampNeg)) 16 (x2).toNatClampNeg (u 16 ((x2 - (1 : Int32))).toNatClampNeg)) else none else none else none else none else none else none else none else none else none else none
def e_X1_goOn (u : Mem) (x2 : Int32) : Option Mem :=
  if inb (x2 - (1 : Int32)) 9 = true then if inb x2 9 = true then if inb (x2 - (1 : Int32)) 9 = true then if inb x2 9 = true then if inb (x2 - (1 : Int32)) 9 = true then if inb x2 9 = true then if inb (x2 - (1 : Int32)) 9 = true then if inb x2 9 = true then if inb x2 9 = true then if inb x2 9 = true then if inb (x2 - (1 : Int32)) 9 = true then if inb x2 9 = true then if inb (x2 - (1 : Int32)) 9 = true then if inb x2 9 = true then if inb x2 9 = true then if inb x2 9 = true then some (put (put (put (put (put u 12 (x2).toNatClampNeg (u 12 ((x2 - (1 : Int32))).toNatClampNeg)) 13 (x2).toNatClampNeg ((u 13 ((x2 - (1 : Int32))).toNatClampNeg) + (1 : Int32))) 14 (x2).toNatClampNeg (u 14 ((x2 - (1 : Int32))).toNatClampNeg)) 15 (x2).toNatClampNeg (if (u 15 ((x2 - (1 : Int32))).toNatClampNeg) < (u 3 (x2).toNatClampNeg) then (u 3 (x2).toNatClampNeg) else (u 15 ((x2 - (1 : Int32))).toNatClampNeg))) 16 (x2).toNatClampNeg ((((u 16 ((x2 - (1 : Int32))).toNatClampNeg) + ((((put (put (put (put u 12 (x2).toNatClampNeg (u 12 ((x2 - (1 : Int32))).toNatClampNeg)) 13 (x2).toNatClampNeg ((u 13 ((x2 - (1 : Int32))).toNatClampNeg) + (1 : Int32))) 14 (x2).toNatClampNeg (u 14 ((x2 - (1 : Int32))).toNatClampNeg)) 15 (x2).toNatClampNeg (if (u 15 ((x2 - (1 : Int32))).toNatClampNeg) < (u 3 (x2).toNatClampNeg) then (u 3 (x2).toNatClampNeg) else (u 15 ((x2 - (1 : Int32))).toNatClampNeg))) 15 (x2).toNatClampNeg) - ((put (put (put (put u 12 (x2).toNatClampNeg (u 12 ((x2 - (1 : Int32))).toNatClampNeg)) 13 (x2).toNatClampNeg ((u 13 ((x2 - (1 : Int32))).toNatClampNeg) + (1 : Int32))) 14 (x2).toNatClampNeg (u 14 ((x2 - (1 : Int32))).toNatClampNeg)) 15 (x2).toNatClampNeg (if (u 15 ((x2 - (1 : Int32))).toNatClampNeg) < (u 3 (x2).toNatClampNeg) then (u 3 (x2).toNatClampNeg) else (u 15 ((x2 - (1 : Int32))).toNatClampNeg))) 15 ((x2 - (1 : Int32))).toNatClampNeg)) * ((put (put u 12 (x2).toNatClampNeg (u 12 ((x2 - (1 : Int32))).toNatClampNeg)) 13 (x2).toNatClampNeg ((u 13 ((x2 - (1 : Int32))).toNatClampNeg) + (1 : Int32))) 13 (x2).toNatClampNeg))) + ((put (put (put (put u 12 (x2).toNatClampNeg (u 12 ((x2 - (1 : Int32))).toNatClampNeg)) 13 (x2).toNatClampNeg ((u 13 ((x2 - (1 : Int32))).toNatClampNeg) + (1 : Int32))) 14 (x2).toNatClampNeg (u 14 ((x2 - (1 : Int32))).toNatClampNeg)) 15 (x2).toNatClampNeg (if (u 15 ((x2 - (1 : Int32))).toNatClampNeg) < (u 3 (x2).toNatClampNeg) then (u 3 (x2).toNatClampNeg) else (u 15 ((x2 - (1 : Int32))).toNatClampNeg))) 15 (x2).toNatClampNeg)) - (u 3 (x2).toNatClampNeg))) else none else none else none else none else none else none else none else none else none else none else none else none else none else none else none else none
def e_X1_put_J17 (u : Mem) (x2 : Int32) : Option Mem :=
  bnv (e_X1_beginPage u x2) (fun u3 => some u3)
def e_X1_put (u : Mem) (x2 : Int32) (x3 : Int32) : Option Mem :=
  if inb x2 9 = true then if x3 = (2 : Int32) then (e_X1_put_J17 (put u 10 (x2).toNatClampNeg x3) x2) else (if (1 : Int32) ≤ x2 then (if x3 = (1 : Int32) then (bnv (e_X1_beginTier (put u 10 (x2).toNatClampNeg x3) x2) (fun u2 => some u2)) else (bnv (e_X1_goOn (put u 10 (x2).toNatClampNeg x3) x2) (fun u1 => some u1))) else (e_X1_put_J17 (put u 10 (x2).toNatClampNeg x3) x2)) else none
def e_X1_raggedOfPage (u : Mem) (x2 : Int32) : Option (Int32 × Mem) :=
  bnd (e_X0_isSpread u x2) (fun r1 u1 => if r1 = 0 then (if inb x2 9 = true then if inb x2 9 = true then if inb x2 9 = true then some ((((((u1 1 1) - (u1 14 (x2).toNatClampNeg)) - (u1 15 (x2).toNatClampNeg)) * (((u1 1 1) - (u1 14 (x2).toNatClampNeg)) - (u1 15 (x2).toNatClampNeg))) + (u1 16 (x2).toNatClampNeg)), u1) else none else none else none) else (some ((0 : Int32), u1)))
def e_X1_pageHeightWith_P (u : Mem) (x2 : Int32) (x3 : Int32) : Option (Int32 × Mem) :=
  if inb x2 9 = true then if x3 = (2 : Int32) then (some ((u 3 (x2).toNatClampNeg), u)) else (if (1 : Int32) ≤ x2 then (if x3 = (1 : Int32) then (if inb (x2 - (1 : Int32)) 9 = true then if inb (x2 - (1 : Int32)) 9 = true then some ((((u 23 ((x2 - (1 : Int32))).toNatClampNeg) + (u 24 ((x2 - (1 : Int32))).toNatClampNeg)) + (u 3 (x2).toNatClampNeg)), u) else none else none) else (if inb (x2 - (1 : Int32)) 9 = true then if inb (x2 - (1 : Int32)) 9 = true then some (((u 23 ((x2 - (1 : Int32))).toNatClampNeg) + (if (u 24 ((x2 - (1 : Int32))).toNatClampNeg) < (u 3 (x2).toNatClampNeg) then (u 3 (x2).toNatClampNeg) else (u 24 ((x2 - (1 : Int32))).toNatClampNeg))), u) else none else none)) else (some ((u 3 (x2).toNatClampNeg), u))) else none
def e_X1_whyNot_P_J81 (u : Mem) (x2 : Int32) (x3 : Int32) : Option (Int32 × Mem) :=
  bnd (e_X0_isSpread u x2) (fun r5 u5 => if r5 = 0 then (bnd (e_X1_pageHeightWith_P u5 x2 x3) (fun r6 u6 => if r6 ≤ (u6 1 1) then (some ((0 : Int32), u6)) else (some ((5 : Int32), u6)))) else (some ((0 : Int32), u5)))
def e_X1_whyNot_P_J56 (u : Mem) (x2 : Int32) (x3 : Int32) : Option (Int32 × Mem) :=
  if x3 = (2 : Int32) then (e_X1_whyNot_P_J81 u x2 x3) else (bnd (e_X0_wantsLeftPage u x2) (fun r3 u3 => if r3 = 0 then (bnd (e_X0_isSpread u3 (x2 - (1 : Int32))) (fun r4 u4 => if r4 = 0 then (e_X1_whyNot_P_J81 u4 x2 x3) else (some ((4 : Int32), u4)))) else (some ((4 : Int32), u3))))
def e_X1_whyNot_P_J32 (u : Mem) (x2 : Int32) (x3 : Int32) : Option (Int32 × Mem) :=
  if x3 = 0 then (bnd (e_X0_wantsOwnTier u x2) (fun r1 u1 => if r1 = 0 then (bnd (e_X0_wantsOwnTier u1 (x2 - (1 : Int32))) (fun r2 u2 => if r2 = 0 then (e_X1_whyNot_P_J56 u2 x2 x3) else (some ((3 : Int32), u2)))) else (some ((3 : Int32), u1)))) else (e_X1_whyNot_P_J56 u x2 x3)
def e_X1_whyNot_P_J12 (u : Mem) (x2 : Int32) (x3 : Int32) : Option (Int32 × Mem) :=
  if x3 = 0 then (if inb (x2 - (1 : Int32)) 9 = true then if ((u 22 ((x2 - (1 : Int32))).toNatClampNeg) + (1 : Int32)) < (4 : Int32) then (e_X1_whyNot_P_J32 u x2 x3) else (some ((2 : Int32), u)) else none) else (e_X1_whyNot_P_J32 u x2 x3)
def e_X1_whyNot_P (u : Mem) (x2 : Int32) (x3 : Int32) : Option (Int32 × Mem) :=
  if x3 = (2 : Int32) then (e_X1_whyNot_P_J12 u x2 x3) else (if (1 : Int32) ≤ x2 then (e_X1_whyNot_P_J12 u x2 x3) else (some ((1 : Int32), u)))
def e_X1_beginPage_P (u : Mem) (x2 : Int32) : Option Mem :=
  if inb x2 9 = true then if inb x2 9 = true then if inb x2 9 = true then if inb x2 9 = true then if inb x2 9 = true then if inb x2 9 = true then some (put (put (put (put (put u 21 (x2).toNatClampNeg (0 : Int32)) 22 (x2).toNatClampNeg (0 : Int32)) 23 (x2).toNatClampNeg (0 : Int32)) 24 (x2).toNatClampNeg (u 3 (x2).toNatClampNeg)) 25 (x2).toNatClampNeg (0 : Int32)) else none else none else none else none else none else none
def e_X1_beginTier_P (u : Mem) (x2 : Int32) : Option Mem :=
  if inb (x2 - (1 : Int32)) 9 = true then if inb x2 9 = true then if inb x2 9 = true then if inb (x2 - (1 : Int32)) 9 = true then if inb (x2 - (1 : Int32)) 9 = true then if inb x2 9 = true then if inb x2 9 = true then if inb x2 9 = true then if inb (x2 - (1 : Int32)) 9 = true then if inb x2 9 = true then some (put (put (put (put (put u 21 (x2).toNatClampNeg ((u 21 ((x2 - (1 : Int32))).toNatClampNeg) + (1 : Int32))) 22 (x2).toNatClampNeg (0 : Int32)) 23 (x2).toNatClampNeg ((u 23 ((x2 - (1 : Int32))).toNatClampNeg) + (u 24 ((x2 - (1 : Int32))).toNatClampNeg))) 24 (x2).toNatClampNeg (u 3 (x2).toNatClampNeg)) 25 (x2).toNatClampNeg (u 25 ((x2 - (1 : Int32))).toNatClampNeg)) else none else none else none else none else none else none else none else none else none else none
def e_X1_goOn_P (u : Mem) (x2 : Int32) : Option Mem :=
  if inb (x2 - (1 : Int32)) 9 = true then if inb x2 9 = true then if inb (x2 - (1 : Int32)) 9 = true then if inb x2 9 = true then if inb (x2 - (1 : Int32)) 9 = true then if inb x2 9 = true then if inb (x2 - (1 : Int32)) 9 = true then if inb x2 9 = true then if inb x2 9 = true then if inb x2 9 = true then if inb (x2 - (1 : Int32)) 9 = true then if inb x2 9 = true then if inb (x2 - (1 : Int32)) 9 = true then if inb x2 9 = true then if inb x2 9 = true then if inb x2 9 = true then some (put (put (put (put (put u 21 (x2).toNatClampNeg (u 21 ((x2 - (1 : Int32))).toNatClampNeg)) 22 (x2).toNatClampNeg ((u 22 ((x2 - (1 : Int32))).toNatClampNeg) + (1 : Int32))) 23 (x2).toNatClampNeg (u 23 ((x2 - (1 : Int32))).toNatClampNeg)) 24 (x2).toNatClampNeg (if (u 24 ((x2 - (1 : Int32))).toNatClampNeg) < (u 3 (x2).toNatClampNeg) then (u 3 (x2).toNatClampNeg) else (u 24 ((x2 - (1 : Int32))).toNatClampNeg))) 25 (x2).toNatClampNeg ((((u 25 ((x2 - (1 : Int32))).toNatClampNeg) + ((((put (put (put (put u 21 (x2).toNatClampNeg (u 21 ((x2 - (1 : Int32))).toNatClampNeg)) 22 (x2).toNatClampNeg ((u 22 ((x2 - (1 : Int32))).toNatClampNeg) + (1 : Int32))) 23 (x2).toNatClampNeg (u 23 ((x2 - (1 : Int32))).toNatClampNeg)) 24 (x2).toNatClampNeg (if (u 24 ((x2 - (1 : Int32))).toNatClampNeg) < (u 3 (x2).toNatClampNeg) then (u 3 (x2).toNatClampNeg) else (u 24 ((x2 - (1 : Int32))).toNatClampNeg))) 24 (x2).toNatClampNeg) - ((put (put (put (put u 21 (x2).toNatClampNeg (u 21 ((x2 - (1 : Int32))).toNatClampNeg)) 22 (x2).toNatClampNeg ((u 22 ((x2 - (1 : Int32))).toNatClampNeg) + (1 : Int32))) 23 (x2).toNatClampNeg (u 23 ((x2 - (1 : Int32))).toNatClampNeg)) 24 (x2).toNatClampNeg (if (u 24 ((x2 - (1 : Int32))).toNatClampNeg) < (u 3 (x2).toNatClampNeg) then (u 3 (x2).toNatClampNeg) else (u 24 ((x2 - (1 : Int32))).toNatClampNeg))) 24 ((x2 - (1 : Int32))).toNatClampNeg)) * ((put (put u 21 (x2).toNatClampNeg (u 21 ((x2 - (1 : Int32))).toNatClampNeg)) 22 (x2).toNatClampNeg ((u 22 ((x2 - (1 : Int32))).toNatClampNeg) + (1 : Int32))) 22 (x2).toNatClampNeg))) + ((put (put (put (put u 21 (x2).toNatClampNeg (u 21 ((x2 - (1 : Int32))).toNatClampNeg)) 22 (x2).toNatClampNeg ((u 22 ((x2 - (1 : Int32))).toNatClampNeg) + (1 : Int32))) 23 (x2).toNatClampNeg (u 23 ((x2 - (1 : Int32))).toNatClampNeg)) 24 (x2).toNatClampNeg (if (u 24 ((x2 - (1 : Int32))).toNatClampNeg) < (u 3 (x2).toNatClampNeg) then (u 3 (x2).toNatClampNeg) else (u 24 ((x2 - (1 : Int32))).toNatClampNeg))) 24 (x2).toNatClampNeg)) - (u 3 (x2).toNatClampNeg))) else none else none else none else none else none else none else none else none else none else none else none else none else none else none else none else none
def e_X1_put_P_J17 (u : Mem) (x2 : Int32) : Option Mem :=
  bnv (e_X1_beginPage_P u x2) (fun u3 => some u3)
def e_X1_put_P (u : Mem) (x2 : Int32) (x3 : Int32) : Option Mem :=
  if inb x2 9 = true then if x3 = (2 : Int32) then (e_X1_put_P_J17 (put u 19 (x2).toNatClampNeg x3) x2) else (if (1 : Int32) ≤ x2 then (if x3 = (1 : Int32) then (bnv (e_X1_beginTier_P (put u 19 (x2).toNatClampNeg x3) x2) (fun u2 => some u2)) else (bnv (e_X1_goOn_P (put u 19 (x2).toNatClampNeg x3) x2) (fun u1 => some u1))) else (e_X1_put_P_J17 (put u 19 (x2).toNatClampNeg x3) x2)) else none
def e_X1_raggedOfPage_P (u : Mem) (x2 : Int32) : Option (Int32 × Mem) :=
  bnd (e_X0_isSpread u x2) (fun r1 u1 => if r1 = 0 then (if inb x2 9 = true then if inb x2 9 = true then if inb x2 9 = true then some ((((((u1 1 1) - (u1 23 (x2).toNatClampNeg)) - (u1 24 (x2).toNatClampNeg)) * (((u1 1 1) - (u1 23 (x2).toNatClampNeg)) - (u1 24 (x2).toNatClampNeg))) + (u1 25 (x2).toNatClampNeg)), u1) else none else none else none) else (some ((0 : Int32), u1)))
def e_X1_turnPage_J83 (u : Mem) (s0 : Int32) (s1 : Int32) : Option Mem :=
  some (put u 9 1 (s1 + s0))
def e_X1_turnPage_J55 (u : Mem) (x2 : Int32) : Option Mem :=
  if inb x2 9 = true then bnd (e_X0_isSpread (put u 11 (x2).toNatClampNeg (u 9 1)) x2) (fun r2 u2 => if r2 = 0 then (e_X1_turnPage_J83 u2 (1 : Int32) (u 9 1)) else (e_X1_turnPage_J83 u2 (2 : Int32) (u 9 1))) else none
def e_X1_turnPage (u : Mem) (x2 : Int32) : Option Mem :=
  bnd (e_X0_wantsLeftPage u x2) (fun r1 u1 => if r1 = 0 then (e_X1_turnPage_J55 u1 x2) else (if ((u1 9 1) - (u1 9 1) / (2 : Int32) * (2 : Int32)) = 0 then (e_X1_turnPage_J55 (put (put (put u1 9 1 ((u1 9 1) + (1 : Int32))) 9 2 ((u1 9 2) + (1 : Int32))) 9 4 ((u1 9 4) + ((u1 1 1) * (u1 1 1)))) x2) else (e_X1_turnPage_J55 u1 x2)))
def e_X1_numberPages_J123 (k22 : Mem → Int32 → Option Mem) (u : Mem) (x2 : Int32) : Option Mem :=
  k22 u (x2 + (1 : Int32))
def e_X1_numberPages_J108 (k22 : Mem → Int32 → Option Mem) (u : Mem) (x2 : Int32) : Option Mem :=
  bnd (e_X1_raggedOfPage u x2) (fun r2 u2 => e_X1_numberPages_J123 k22 (put u2 9 4 ((u 9 4) + r2)) x2)
def e_X1_numberPages_J86 (k22 : Mem → Int32 → Option Mem) (u : Mem) (x2 : Int32) : Option Mem :=
  if (x2 + (1 : Int32)) = (u 1 0) then (e_X1_numberPages_J108 k22 u x2) else (if inb (x2 + (1 : Int32)) 9 = true then if (u 10 ((x2 + (1 : Int32))).toNatClampNeg) = (2 : Int32) then (e_X1_numberPages_J108 k22 u x2) else (e_X1_numberPages_J123 k22 u x2) else none)
def e_X1_numberPages_J67 (k22 : Mem → Int32 → Option Mem) (u : Mem) (x2 : Int32) : Option Mem :=
  if inb x2 9 = true then if (u 10 (x2).toNatClampNeg) = 0 then (e_X1_numberPages_J86 k22 u x2) else (e_X1_numberPages_J86 k22 (put u 9 3 ((u 9 3) + (1 : Int32))) x2) else none
def e_X1_numberPages_L22_b (go : Mem → Int32 → Option Mem) (u : Mem) (x2 : Int32) : Option Mem :=
  if (u 1 0) ≤ x2 then (some u) else (if inb x2 9 = true then if (u 10 (x2).toNatClampNeg) = (2 : Int32) then (bnv (e_X1_turnPage u x2) (fun u1 => e_X1_numberPages_J67 go u1 x2)) else (if x2 ≤ 0 then (e_X1_numberPages_J67 go u x2) else (if inb (x2 - (1 : Int32)) 9 = true then if inb x2 9 = true then e_X1_numberPages_J67 go (put u 11 (x2).toNatClampNeg (u 11 ((x2 - (1 : Int32))).toNatClampNeg)) x2 else none else none)) else none)
def e_X1_numberPages_L22 : Nat → Mem → Int32 → Option Mem
  | 0 => fun _ _ => none
  | f + 1 => e_X1_numberPages_L22_b (e_X1_numberPages_L22 f)
def e_X1_numberPages (u : Mem)  : Option Mem :=
  e_X1_numberPages_L22 FU (put (put (put (put u 9 1 (0 : Int32)) 9 2 (0 : Int32)) 9 3 (0 : Int32)) 9 4 (0 : Int32)) (0 : Int32)
def e_X1_width_J38 (u : Mem) (x2 : Int32) (x3 : Int32) : Option (Int32 × Mem) :=
  if inb x2 9 = true then if inb x2 9 = true then bnd (e_X0_tierWidth u (x2 - (u 13 (x2).toNatClampNeg)) (x3 - (x2 - (u 13 (x2).toNatClampNeg))) (u 13 (x2).toNatClampNeg)) (fun r2 u2 => some (r2, u2)) else none else none
def e_X1_width_L15_b (go : Mem → Int32 → Int32 → Option (Int32 × Mem)) (u : Mem) (x2 : Int32) (x3 : Int32) : Option (Int32 × Mem) :=
  if (u 1 0) ≤ x3 then (e_X1_width_J38 u x2 x3) else (if inb x3 9 = true then if (u 10 (x3).toNatClampNeg) = 0 then (go u x2 (x3 + (1 : Int32))) else (e_X1_width_J38 u x2 x3) else none)
def e_X1_width_L15 : Nat → Mem → Int32 → Int32 → Option (Int32 × Mem)
  | 0 => fun _ _ _ => none
  | f + 1 => e_X1_width_L15_b (e_X1_width_L15 f)
def e_X1_width (u : Mem) (x2 : Int32) : Option (Int32 × Mem) :=
  bnd (e_X0_isSpread u x2) (fun r1 u1 => if r1 = 0 then (e_X1_width_L15 FU u1 x2 (x2 + (1 : Int32))) else (some ((24 : Int32), u1)))
def e_X1_pour_L5_b (go : Mem → Option (Int32 × Mem)) (u : Mem)  : Option (Int32 × Mem) :=
  if (u 1 0) ≤ (u 9 0) then (some ((0 : Int32), u)) else (bnd (e_X2_figure u (u 9 0)) (fun r1 u1 => bnd (e_X1_whyNot u1 (u1 9 0) r1) (fun r2 u2 => if r2 = 0 then (bnv (e_X1_put u2 (u2 9 0) r1) (fun u3 => go (put u3 9 0 ((u3 9 0) + (1 : Int32))))) else (some (r2, u2)))))
def e_X1_pour_L5 : Nat → Mem → Option (Int32 × Mem)
  | 0 => fun _ => none
  | f + 1 => e_X1_pour_L5_b (e_X1_pour_L5 f)
def e_X1_pour (u : Mem)  : Option (Int32 × Mem) :=
  e_X1_pour_L5 FU (put u 9 0 (0 : Int32))
def e_X3_goes (u : Mem)  : Option (Int32 × Mem) :=
  if inb (0 : Int32) 20 = true then some ((u 26 ((0 : Int32)).toNatClampNeg), u) else none
def e_X3_fewestPages (u : Mem)  : Option (Int32 × Mem) :=
  if inb (0 : Int32) 20 = true then some ((u 27 ((0 : Int32)).toNatClampNeg), u) else none
def e_X3_leastRagged (u : Mem)  : Option (Int32 × Mem) :=
  if inb (0 : Int32) 20 = true then some ((u 29 ((0 : Int32)).toNatClampNeg), u) else none
def e_X3_goesInFewest (u : Mem)  : Option (Int32 × Mem) :=
  if inb (0 : Int32) 20 = true then some ((u 28 ((0 : Int32)).toNatClampNeg), u) else none
def e_X3_figure (u : Mem) (x2 : Int32) : Option (Int32 × Mem) :=
  if inb (0 : Int32) 20 = true then some ((((u 30 ((0 : Int32)).toNatClampNeg) >>> (((2 : Int32) * (((u 1 0) - (1 : Int32)) - x2)) &&& 31)) &&& (3 : Int32)), u) else none
def e_X3_clear_L2_b (go : Mem → Int32 → Int32 → Option Mem) (u : Mem) (x1 : Int32) (x2 : Int32) : Option Mem :=
  if (x1 + (2 : Int32)) ≤ x2 then (some u) else (if inb x2 20 = true then if inb x2 20 = true then if inb x2 20 = true then if inb x2 20 = true then if inb x2 20 = true then go (put (put (put (put (put u 26 (x2).toNatClampNeg (0 : Int32)) 27 (x2).toNatClampNeg (0 : Int32)) 28 (x2).toNatClampNeg (0 : Int32)) 29 (x2).toNatClampNeg (0 : Int32)) 30 (x2).toNatClampNeg (0 : Int32)) x1 (x2 + (1 : Int32)) else none else none else none else none else none)
def e_X3_clear_L2 : Nat → Mem → Int32 → Int32 → Option Mem
  | 0 => fun _ _ _ => none
  | f + 1 => e_X3_clear_L2_b (e_X3_clear_L2 f)
def e_X3_clear (u : Mem) (x1 : Int32) : Option Mem :=
  e_X3_clear_L2 FU u x1 x1
def e_X3_offer_J168 (u : Mem) (x1 : Int32) (x3 : Int32) (x4 : Int32) (x5 : Int32) : Option Mem :=
  if inb x1 20 = true then if inb x1 20 = true then if inb x1 20 = true then some (put (put (put u 27 (x1).toNatClampNeg x3) 29 (x1).toNatClampNeg x4) 30 (x1).toNatClampNeg x5) else none else none else none
def e_X3_offer_J158 (u : Mem) (x1 : Int32) (x3 : Int32) (x4 : Int32) (x5 : Int32) (x6 : Int32) (x8 : Int32) : Option Mem :=
  if x6 = 0 then (if x8 = 0 then (some u) else (e_X3_offer_J168 u x1 x3 x4 x5)) else (e_X3_offer_J168 u x1 x3 x4 x5)
def e_X3_offer_J101 (u : Mem) (x1 : Int32) (x2 : Int32) (x3 : Int32) (x4 : Int32) (x5 : Int32) (x6 : Int32) (x7 : Int32) (s0 : Int32) : Option Mem :=
  if inb x1 20 = true then if inb x2 20 = true then if inb x1 20 = true then if x6 = 0 then (if x7 = 0 then (e_X3_offer_J158 (put u 26 (x1).toNatClampNeg ((u 26 (x1).toNatClampNeg) + (u 26 (x2).toNatClampNeg))) x1 x3 x4 x5 x6 s0) else (if inb x1 20 = true then if inb x2 20 = true then if inb x1 20 = true then e_X3_offer_J158 (put (put u 26 (x1).toNatClampNeg ((u 26 (x1).toNatClampNeg) + (u 26 (x2).toNatClampNeg))) 28 (x1).toNatClampNeg ((u 28 (x1).toNatClampNeg) + (u 28 (x2).toNatClampNeg))) x1 x3 x4 x5 x6 s0 else none else none else none)) else (if inb x2 20 = true then if inb x1 20 = true then e_X3_offer_J158 (put (put u 26 (x1).toNatClampNeg ((u 26 (x1).toNatClampNeg) + (u 26 (x2).toNatClampNeg))) 28 (x1).toNatClampNeg (u 28 (x2).toNatClampNeg)) x1 x3 x4 x5 x6 s0 else none else none) else none else none else none
def e_X3_offer_J100 (u : Mem) (x1 : Int32) (x2 : Int32) (x3 : Int32) (x4 : Int32) (x5 : Int32) (x6 : Int32) (x7 : Int32) : Option Mem :=
  e_X3_offer_J101 u x1 x2 x3 x4 x5 x6 x7 (0 : Int32)
def e_X3_offer_J96 (u : Mem) (x1 : Int32) (x2 : Int32) (x3 : Int32) (x4 : Int32) (x5 : Int32) (x6 : Int32) (x7 : Int32) : Option Mem :=
  e_X3_offer_J101 u x1 x2 x3 x4 x5 x6 x7 (1 : Int32)
def e_X3_offer_J56 (u : Mem) (x1 : Int32) (x2 : Int32) (x3 : Int32) (x4 : Int32) (x5 : Int32) (x6 : Int32) (s0 : Int32) : Option Mem :=
  if s0 = 0 then (e_X3_offer_J100 u x1 x2 x3 x4 x5 x6 s0) else (if inb x1 20 = true then if x4 < (u 29 (x1).toNatClampNeg) then (e_X3_offer_J96 u x1 x2 x3 x4 x5 x6 s0) else (if inb x1 20 = true then if x4 = (u 29 (x1).toNatClampNeg) then (if inb x1 20 = true then if (u 30 (x1).toNatClampNeg) ≤ x5 then (e_X3_offer_J100 u x1 x2 x3 x4 x5 x6 s0) else (e_X3_offer_J96 u x1 x2 x3 x4 x5 x6 s0) else none) else (e_X3_offer_J100 u x1 x2 x3 x4 x5 x6 s0) else none) else none)
def e_X3_offer_J55 (u : Mem) (x1 : Int32) (x2 : Int32) (x3 : Int32) (x4 : Int32) (x5 : Int32) (x6 : Int32) : Option Mem :=
  e_X3_offer_J56 u x1 x2 x3 x4 x5 x6 (0 : Int32)
def e_X3_offer_J34 (u : Mem) (x1 : Int32) (x2 : Int32) (x3 : Int32) (x4 : Int32) (x5 : Int32) (s0 : Int32) : Option Mem :=
  if s0 = 0 then (if inb x1 20 = true then if x3 = (u 27 (x1).toNatClampNeg) then (e_X3_offer_J56 u x1 x2 x3 x4 x5 s0 (1 : Int32)) else (e_X3_offer_J55 u x1 x2 x3 x4 x5 s0) else none) else (e_X3_offer_J55 u x1 x2 x3 x4 x5 s0)
def e_X3_offer_J29 (u : Mem) (x1 : Int32) (x2 : Int32) (x3 : Int32) (x4 : Int32) (x5 : Int32) : Option Mem :=
  e_X3_offer_J34 u x1 x2 x3 x4 x5 (1 : Int32)
def e_X3_offer (u : Mem) (x1 : Int32) (x2 : Int32) (x3 : Int32) (x4 : Int32) (x5 : Int32) : Option Mem :=
  if inb x2 20 = true then if (u 26 (x2).toNatClampNeg) = 0 then (some u) else (if inb x1 20 = true then if (u 26 (x1).toNatClampNeg) = 0 then (e_X3_offer_J29 u x1 x2 x3 x4 x5) else (if inb x1 20 = true then if (u 27 (x1).toNatClampNeg) ≤ x3 then (e_X3_offer_J34 u x1 x2 x3 x4 x5 (0 : Int32)) else (e_X3_offer_J29 u x1 x2 x3 x4 x5) else none) else none) else none
def e_X3_endPage_J70 (k29 : Mem → Int32 → Int32 → Int32 → Int32 → Int32 → Option Mem) (u : Mem) (x2 : Int32) (x3 : Int32) (x5 : Int32) (x6 : Int32) (x7 : Int32) (x8 : Int32) (s0 : Int32) (s1 : Int32) : Option Mem :=
  if inb (((2 : Int32) * (x3 + (1 : Int32))) + ((x7 + (s1 + s0)) - (x7 + (s1 + s0)) / (2 : Int32) * (2 : Int32))) 20 = true then if inb (((2 : Int32) * (x3 + (1 : Int32))) + ((x7 + (s1 + s0)) - (x7 + (s1 + s0)) / (2 : Int32) * (2 : Int32))) 20 = true then if inb (((2 : Int32) * (x3 + (1 : Int32))) + ((x7 + (s1 + s0)) - (x7 + (s1 + s0)) / (2 : Int32) * (2 : Int32))) 20 = true then bnv (e_X3_offer u (((2 : Int32) * x2) + x7) (((2 : Int32) * (x3 + (1 : Int32))) + ((x7 + (s1 + s0)) - (x7 + (s1 + s0)) / (2 : Int32) * (2 : Int32))) ((s1 + s0) + (u 27 ((((2 : Int32) * (x3 + (1 : Int32))) + ((x7 + (s1 + s0)) - (x7 + (s1 + s0)) / (2 : Int32) * (2 : Int32)))).toNatClampNeg)) ((x5 + ((x8 * (u 1 1)) * (u 1 1))) + (u 29 ((((2 : Int32) * (x3 + (1 : Int32))) + ((x7 + (s1 + s0)) - (x7 + (s1 + s0)) / (2 : Int32) * (2 : Int32)))).toNatClampNeg)) (x6 ||| (u 30 ((((2 : Int32) * (x3 + (1 : Int32))) + ((x7 + (s1 + s0)) - (x7 + (s1 + s0)) / (2 : Int32) * (2 : Int32)))).toNatClampNeg))) (fun u4 => k29 u4 x2 x3 x5 x6 (x7 + (1 : Int32))) else none else none else none
def e_X3_endPage_J53 (k29 : Mem → Int32 → Int32 → Int32 → Int32 → Int32 → Option Mem) (u : Mem) (x2 : Int32) (x3 : Int32) (x5 : Int32) (x6 : Int32) (x7 : Int32) (s0 : Int32) : Option Mem :=
  bnd (e_X0_isSpread u x2) (fun r3 u3 => if r3 = 0 then (e_X3_endPage_J70 k29 u3 x2 x3 x5 x6 x7 s0 (1 : Int32) s0) else (e_X3_endPage_J70 k29 u3 x2 x3 x5 x6 x7 s0 (2 : Int32) s0))
def e_X3_endPage_J52 (k29 : Mem → Int32 → Int32 → Int32 → Int32 → Int32 → Option Mem) (u : Mem) (x2 : Int32) (x3 : Int32) (x5 : Int32) (x6 : Int32) (x7 : Int32) : Option Mem :=
  e_X3_endPage_J53 k29 u x2 x3 x5 x6 x7 (0 : Int32)
def e_X3_endPage_L29_b (go : Mem → Int32 → Int32 → Int32 → Int32 → Int32 → Option Mem) (u : Mem) (x2 : Int32) (x3 : Int32) (x5 : Int32) (x6 : Int32) (x7 : Int32) : Option Mem :=
  if (1 : Int32) < x7 then (some u) else (if x7 = 0 then (bnd (e_X0_wantsLeftPage u x2) (fun r2 u2 => if r2 = 0 then (e_X3_endPage_J52 go u2 x2 x3 x5 x6 x7) else (e_X3_endPage_J53 go u2 x2 x3 x5 x6 x7 (1 : Int32)))) else (e_X3_endPage_J52 go u x2 x3 x5 x6 x7))
def e_X3_endPage_L29 : Nat → Mem → Int32 → Int32 → Int32 → Int32 → Int32 → Option Mem
  | 0 => fun _ _ _ _ _ _ => none
  | f + 1 => e_X3_endPage_L29_b (e_X3_endPage_L29 f)
def e_X3_endPage (u : Mem) (x2 : Int32) (x3 : Int32) (x4 : Int32) : Option Mem :=
  bnd (e_X1_raggedOfPage_P u x3) (fun r1 u1 => e_X3_endPage_L29 FU u1 x2 x3 r1 (x4 <<< (((2 : Int32) * (((u1 1 0) - (1 : Int32)) - x3)) &&& 31)) (0 : Int32))
def e_X3_growPage_J75 (self : Mem → Int32 → Int32 → Int32 → Option Mem) (k27 : Mem → Int32 → Int32 → Int32 → Int32 → Option Mem) (u : Mem) (x2 : Int32) (x4 : Int32) (x5 : Int32) (x6 : Int32) : Option Mem :=
  k27 u x2 x4 x5 (x6 + (1 : Int32))
def e_X3_growPage_L27_b (self : Mem → Int32 → Int32 → Int32 → Option Mem) (go : Mem → Int32 → Int32 → Int32 → Int32 → Option Mem) (u : Mem) (x2 : Int32) (x4 : Int32) (x5 : Int32) (x6 : Int32) : Option Mem :=
  if (1 : Int32) < x6 then (some u) else (bnd (e_X1_whyNot_P u x5 x6) (fun r2 u2 => if r2 = 0 then (bnv (e_X1_put_P u2 x5 x6) (fun u3 => bnv (self u3 x2 x5 ((x4 <<< ((2 : Int32) &&& 31)) ||| x6)) (fun u4 => e_X3_growPage_J75 self go u4 x2 x4 x5 x6))) else (e_X3_growPage_J75 self go u2 x2 x4 x5 x6)))
def e_X3_growPage_L27 (self : Mem → Int32 → Int32 → Int32 → Option Mem) : Nat → Mem → Int32 → Int32 → Int32 → Int32 → Option Mem
  | 0 => fun _ _ _ _ _ => none
  | f + 1 => e_X3_growPage_L27_b self (e_X3_growPage_L27 self f)
def e_X3_growPage_b (self : Mem → Int32 → Int32 → Int32 → Option Mem) (u : Mem) (x2 : Int32) (x3 : Int32) (x4 : Int32) : Option Mem :=
  bnv (e_X3_endPage u x2 x3 x4) (fun u1 => if (x3 + (1 : Int32)) < (u1 1 0) then (e_X3_growPage_L27 self FU u1 x2 x4 (x3 + (1 : Int32)) (0 : Int32)) else (some u1))
def e_X3_growPage : Nat → Mem → Int32 → Int32 → Int32 → Option Mem
  | 0 => fun _ _ _ _ => none
  | d + 1 => e_X3_growPage_b (e_X3_growPage d)
def e_X3_run_J93 (k51 : Mem → Int32 → Option Mem) (u : Mem) (x3 : Int32) : Option Mem :=
  k51 u (x3 + (-1 : Int32))
def e_X3_run_L51_b (go : Mem → Int32 → Option Mem) (u : Mem) (x3 : Int32) : Option Mem :=
  if x3 < 0 then (some u) else (bnv (e_X3_clear u ((2 : Int32) * x3)) (fun u2 => bnd (e_X1_whyNot_P u2 x3 (2 : Int32)) (fun r3 u3 => if r3 = 0 then (bnv (e_X1_put_P u3 x3 (2 : Int32)) (fun u4 => bnv (e_X3_growPage RD u4 x3 x3 (2 : Int32)) (fun u5 => e_X3_run_J93 go u5 x3))) else (e_X3_run_J93 go u3 x3))))
def e_X3_run_L51 : Nat → Mem → Int32 → Option Mem
  | 0 => fun _ _ => none
  | f + 1 => e_X3_run_L51_b (e_X3_run_L51 f)
def e_X3_run (u : Mem)  : Option Mem :=
  bnv (e_X3_clear u ((2 : Int32) * (u 1 0))) (fun u1 => if inb ((2 : Int32) * (u 1 0)) 20 = true then if inb ((2 : Int32) * (u 1 0)) 20 = true then if inb (((2 : Int32) * (u 1 0)) + (1 : Int32)) 20 = true then if inb (((2 : Int32) * (u 1 0)) + (1 : Int32)) 20 = true then e_X3_run_L51 FU (put (put (put (put u1 26 (((2 : Int32) * (u 1 0))).toNatClampNeg (1 : Int32)) 28 (((2 : Int32) * (u 1 0))).toNatClampNeg (1 : Int32)) 26 ((((2 : Int32) * (u 1 0)) + (1 : Int32))).toNatClampNeg (1 : Int32)) 28 ((((2 : Int32) * (u 1 0)) + (1 : Int32))).toNatClampNeg (1 : Int32)) ((u1 1 0) - (1 : Int32)) else none else none else none else none)
def e_X4_fits_J128 (k66 : Mem → Int32 → Int32 → Int32 → Int32 → Int32 → Int32 → Option (Int32 × Mem)) (u : Mem) (x2 : Int32) (x3 : Int32) (x4 : Int32) (x5 : Int32) (x6 : Int32) (x7 : Int32) : Option (Int32 × Mem) :=
  k66 u x2 x3 x4 x5 x6 (x7 + (1 : Int32))
def e_X4_fits_J114 (k66 : Mem → Int32 → Int32 → Int32 → Int32 → Int32 → Int32 → Option (Int32 × Mem)) (u : Mem) (x2 : Int32) (x3 : Int32) (x4 : Int32) (x5 : Int32) (x6 : Int32) (x7 : Int32) (x8 : Int32) (x9 : Int32) : Option (Int32 × Mem) :=
  if x9 = 0 then (if x6 = x8 then (some ((0 : Int32), u)) else (e_X4_fits_J128 k66 u x2 x3 x4 x5 x6 x7)) else (e_X4_fits_J128 k66 u x2 x3 x4 x5 x6 x7)
def e_X4_fits_J100 (k66 : Mem → Int32 → Int32 → Int32 → Int32 → Int32 → Int32 → Option (Int32 × Mem)) (u : Mem) (x2 : Int32) (x3 : Int32) (x4 : Int32) (x5 : Int32) (x6 : Int32) (x7 : Int32) (x8 : Int32) (s0 : Int32) : Option (Int32 × Mem) :=
  if s0 = 0 then (e_X4_fits_J114 k66 u x2 x3 x4 x5 x6 x7 x8 s0) else (if x4 < x8 then (some ((0 : Int32), u)) else (e_X4_fits_J114 k66 u x2 x3 x4 x5 x6 x7 x8 s0))
def e_X4_fits_L66_b (go : Mem → Int32 → Int32 → Int32 → Int32 → Int32 → Int32 → Option (Int32 × Mem)) (u : Mem) (x2 : Int32) (x3 : Int32) (x4 : Int32) (x5 : Int32) (x6 : Int32) (x7 : Int32) : Option (Int32 × Mem) :=
  if x3 ≤ x7 then (some ((1 : Int32), u)) else (bnd (e_X0_speakerColumn u x2 x7) (fun r2 u2 => if inb x7 4 = true then if ((u2 32 (x7).toNatClampNeg) / (4 : Int32)) = x5 then (e_X4_fits_J100 go u2 x2 x3 x4 x5 x6 x7 r2 (1 : Int32)) else (e_X4_fits_J100 go u2 x2 x3 x4 x5 x6 x7 r2 (0 : Int32)) else none))
def e_X4_fits_L66 : Nat → Mem → Int32 → Int32 → Int32 → Int32 → Int32 → Int32 → Option (Int32 × Mem)
  | 0 => fun _ _ _ _ _ _ _ => none
  | f + 1 => e_X4_fits_L66_b (e_X4_fits_L66 f)
def e_X4_fits_J49 (u : Mem) (x2 : Int32) (x3 : Int32) (x4 : Int32) (x5 : Int32) (x6 : Int32) : Option (Int32 × Mem) :=
  if (if 0 ≤ (x6 - x4) then (x6 - x4) else 0 - (x6 - x4)) ≤ (1 : Int32) then (e_X4_fits_L66 FU u x2 x3 x4 x5 x6 (0 : Int32)) else (some ((0 : Int32), u))
def e_X4_fits (u : Mem) (x2 : Int32) (x3 : Int32) : Option (Int32 × Mem) :=
  bnd (e_X0_speakerColumn u x2 x3) (fun r1 u1 => if inb x3 4 = true then if inb x3 4 = true then if x3 ≤ 0 then (e_X4_fits_J49 u1 x2 x3 r1 ((u1 32 (x3).toNatClampNeg) / (4 : Int32)) ((u1 32 (x3).toNatClampNeg) - (u1 32 (x3).toNatClampNeg) / (4 : Int32) * (4 : Int32))) else (if inb x3 4 = true then if inb (x3 - (1 : Int32)) 4 = true then if (u1 32 (x3).toNatClampNeg) ≤ (u1 32 ((x3 - (1 : Int32))).toNatClampNeg) then (some ((0 : Int32), u1)) else (e_X4_fits_J49 u1 x2 x3 r1 ((u1 32 (x3).toNatClampNeg) / (4 : Int32)) ((u1 32 (x3).toNatClampNeg) - (u1 32 (x3).toNatClampNeg) / (4 : Int32) * (4 : Int32))) else none else none) else none else none)
def e_X4_keep_J71 (u : Mem) (x2 : Int32) : Option Mem :=
  if x2 = (u 31 3) then (some (put u 31 4 ((u 31 4) + (1 : Int32)))) else (some u)
def e_X4_keep_J47 (u : Mem) (x1 : Int32) (x2 : Int32) : Option Mem :=
  if decide (0 ≤ (x1).toInt ∧ (x1).toNatClampNeg ≤ 4 ∧ (x1).toNatClampNeg ≤ 4) = true then e_X4_keep_J71 (cpy (put (put u 31 3 x2) 31 4 (0 : Int32)) 32 33 (x1).toNatClampNeg) x2 else none
def e_X4_keep_J20 (u : Mem) (x1 : Int32) (s0 : Int32) : Option Mem :=
  if ((u 31 2) + (1 : Int32)) = (1 : Int32) then (e_X4_keep_J47 (put u 31 2 ((u 31 2) + (1 : Int32))) x1 s0) else (if (u 31 3) ≤ s0 then (e_X4_keep_J71 (put u 31 2 ((u 31 2) + (1 : Int32))) s0) else (e_X4_keep_J47 (put u 31 2 ((u 31 2) + (1 : Int32))) x1 s0))
def e_X4_keep (u : Mem) (x1 : Int32) : Option Mem :=
  if x1 = 0 then (e_X4_keep_J20 u x1 (0 : Int32)) else (if inb (x1 - (1 : Int32)) 4 = true then e_X4_keep_J20 u x1 (((u 32 ((x1 - (1 : Int32))).toNatClampNeg) / (4 : Int32)) + (1 : Int32)) else none)
def e_X4_setFrom_J58 (self : Mem → Int32 → Int32 → Option Mem) (k24 : Mem → Int32 → Int32 → Int32 → Option Mem) (u : Mem) (x2 : Int32) (x3 : Int32) (x4 : Int32) : Option Mem :=
  k24 u x2 x3 (x4 + (1 : Int32))
def e_X4_setFrom_J15 (self : Mem → Int32 → Int32 → Option Mem) (u : Mem) (x3 : Int32) : Option Mem :=
  bnv (e_X4_keep u x3) (fun u3 => some u3)
def e_X4_setFrom_L24_b (self : Mem → Int32 → Int32 → Option Mem) (go : Mem → Int32 → Int32 → Int32 → Option Mem) (u : Mem) (x2 : Int32) (x3 : Int32) (x4 : Int32) : Option Mem :=
  if (12 : Int32) ≤ x4 then (some u) else (if inb x3 4 = true then bnd (e_X4_fits (put u 32 (x3).toNatClampNeg x4) x2 x3) (fun r1 u1 => if r1 = 0 then (e_X4_setFrom_J58 self go u1 x2 x3 x4) else (bnv (self u1 x2 (x3 + (1 : Int32))) (fun u2 => e_X4_setFrom_J58 self go u2 x2 x3 x4))) else none)
def e_X4_setFrom_L24 (self : Mem → Int32 → Int32 → Option Mem) : Nat → Mem → Int32 → Int32 → Int32 → Option Mem
  | 0 => fun _ _ _ _ => none
  | f + 1 => e_X4_setFrom_L24_b self (e_X4_setFrom_L24 self f)
def e_X4_setFrom_b (self : Mem → Int32 → Int32 → Option Mem) (u : Mem) (x2 : Int32) (x3 : Int32) : Option Mem :=
  if inb x2 9 = true then if (u 5 (x2).toNatClampNeg) ≤ x3 then (e_X4_setFrom_J15 self u x3) else (if x3 < (4 : Int32) then (e_X4_setFrom_L24 self FU u x2 x3 (0 : Int32)) else (e_X4_setFrom_J15 self u x3)) else none
def e_X4_setFrom : Nat → Mem → Int32 → Int32 → Option Mem
  | 0 => fun _ _ _ => none
  | d + 1 => e_X4_setFrom_b (e_X4_setFrom d)
def e_X4_findGood (u : Mem) (x2 : Int32) : Option Mem :=
  bnv (e_X4_setFrom RD (put (put (put u 31 2 (0 : Int32)) 31 3 (0 : Int32)) 31 4 (0 : Int32)) x2 (0 : Int32)) (fun u1 => some u1)
def e_X5_isFeature (u : Mem) (x0 : Int32) (x1 : Int32) : Option (Int32 × Mem) :=
  if x0 = (0 : Int32) then (if x1 < (1 : Int32) then (some ((0 : Int32), u)) else (if (9 : Int32) < x1 then (some ((0 : Int32), u)) else (some ((1 : Int32), u)))) else (if x0 = (1 : Int32) then (if x1 < (1 : Int32) then (some ((0 : Int32), u)) else (if (6 : Int32) < x1 then (some ((0 : Int32), u)) else (some ((1 : Int32), u)))) else (if x0 = (2 : Int32) then (if x1 < 0 then (some ((0 : Int32), u)) else (if (3 : Int32) < x1 then (some ((0 : Int32), u)) else (some ((1 : Int32), u)))) else (some ((0 : Int32), u))))
def e_X5_padIsLayout (u : Mem)  : Option (Int32 × Mem) :=
  if (u 7 0) = (u 1 0) then (bnd (e_X2_hasOnlyFigures u (2 : Int32)) (fun r1 u1 => if r1 = 0 then (some ((0 : Int32), u1)) else (some ((1 : Int32), u1)))) else (some ((0 : Int32), u))
def e_X5_padIsSetting_L25_b (go : Mem → Int32 → Int32 → Option (Int32 × Mem)) (u : Mem) (x1 : Int32) (x2 : Int32) : Option (Int32 × Mem) :=
  if inb x1 9 = true then if (u 5 (x1).toNatClampNeg) ≤ x2 then (some ((1 : Int32), u)) else (bnd (e_X2_isFigure u ((2 : Int32) * x2) (2 : Int32)) (fun r1 u1 => if r1 = 0 then (some ((0 : Int32), u1)) else (bnd (e_X2_isFigure u1 (((2 : Int32) * x2) + (1 : Int32)) (3 : Int32)) (fun r2 u2 => if r2 = 0 then (some ((0 : Int32), u2)) else (go u2 x1 (x2 + (1 : Int32))))))) else none
def e_X5_padIsSetting_L25 : Nat → Mem → Int32 → Int32 → Option (Int32 × Mem)
  | 0 => fun _ _ _ => none
  | f + 1 => e_X5_padIsSetting_L25_b (e_X5_padIsSetting_L25 f)
def e_X5_padIsSetting (u : Mem) (x1 : Int32) : Option (Int32 × Mem) :=
  if inb x1 9 = true then if (u 7 0) = ((2 : Int32) * (u 5 (x1).toNatClampNeg)) then (e_X5_padIsSetting_L25 FU u x1 (0 : Int32)) else (some ((0 : Int32), u)) else none
def e_X5_panel (u : Mem) (x1 : Int32) (x2 : Int32) (x3 : Int32) : Option (Int32 × Mem) :=
  bnd (e_X5_isFeature u (0 : Int32) x1) (fun r1 u1 => if r1 = 0 then (some ((-2 : Int32), u1)) else (bnd (e_X5_isFeature u1 (1 : Int32) x2) (fun r2 u2 => if r2 = 0 then (some ((-2 : Int32), u2)) else (bnd (e_X5_isFeature u2 (2 : Int32) x3) (fun r3 u3 => if r3 = 0 then (some ((-2 : Int32), u3)) else (if (u3 1 0) < (9 : Int32) then (if inb (u3 1 0) 9 = true then if inb (u3 1 0) 9 = true then if inb (u3 1 0) 9 = true then if inb (u3 1 0) 9 = true then some ((u3 1 0), (put (put (put (put (put u3 2 ((u3 1 0)).toNatClampNeg x1) 3 ((u3 1 0)).toNatClampNeg x2) 4 ((u3 1 0)).toNatClampNeg x3) 5 ((u3 1 0)).toNatClampNeg (0 : Int32)) 1 0 ((u3 1 0) + (1 : Int32)))) else none else none else none else none) else (some ((-4 : Int32), u3))))))))
def e_X5_pop (u : Mem)  : Option (Int32 × Mem) :=
  if (1 : Int32) ≤ (u 1 0) then (some (((u 1 0) - (1 : Int32)), (put u 1 0 ((u 1 0) - (1 : Int32))))) else (some ((-5 : Int32), u))
def e_X5_change (u : Mem) (x1 : Int32) (x2 : Int32) (x3 : Int32) : Option (Int32 × Mem) :=
  bnd (e_X0_has u x1) (fun r1 u1 => if r1 = 0 then (some ((-1 : Int32), u1)) else (bnd (e_X5_isFeature u1 x2 x3) (fun r2 u2 => if r2 = 0 then (some ((-2 : Int32), u2)) else (bnd (e_X0_feature u2 x1 x2) (fun r3 u3 => if x2 = 0 then (if inb x1 9 = true then some (r3, (put u3 2 (x1).toNatClampNeg x3)) else none) else (if x2 = (1 : Int32) then (if inb x1 9 = true then some (r3, (put u3 3 (x1).toNatClampNeg x3)) else none) else (if inb x1 9 = true then some (r3, (put u3 4 (x1).toNatClampNeg x3)) else none)))))))
def e_X5_high (u : Mem) (x1 : Int32) : Option (Int32 × Mem) :=
  if x1 < (6 : Int32) then (some ((-2 : Int32), u)) else (if x1 ≤ (20 : Int32) then (some ((u 1 1), (put u 1 1 x1))) else (some ((-2 : Int32), u)))
def e_X5_of (u : Mem) (x1 : Int32) (x2 : Int32) : Option (Int32 × Mem) :=
  bnd (e_X0_has u x1) (fun r1 u1 => if r1 = 0 then (some ((-1 : Int32), u1)) else (if x2 < 0 then (some ((-2 : Int32), u1)) else (if x2 ≤ (3 : Int32) then (bnd (e_X0_feature u1 x1 x2) (fun r2 u2 => some (r2, u2))) else (some ((-2 : Int32), u1)))))
def e_X5_tier (u : Mem) (x1 : Int32) (x2 : Int32) (x3 : Int32) : Option (Int32 × Mem) :=
  bnd (e_X0_has u x1) (fun r1 u1 => if r1 = 0 then (some ((-1 : Int32), u1)) else (if x2 < (1 : Int32) then (some ((-2 : Int32), u1)) else (if (4 : Int32) < x2 then (some ((-2 : Int32), u1)) else (if (x1 + x2) ≤ (u1 1 0) then (if x3 = 0 then (bnd (e_X0_tierHeight u1 x1 x2) (fun r4 u4 => some (r4, u4))) else (if x3 = (1 : Int32) then (bnd (e_X0_tierGaps u1 x1 x2) (fun r3 u3 => some (r3, u3))) else (if x3 < (10 : Int32) then (some ((-2 : Int32), u1)) else (if x3 < ((10 : Int32) + x2) then (bnd (e_X0_tierWidth u1 x1 x2 (x3 - (10 : Int32))) (fun r2 u2 => some (r2, u2))) else (some ((-2 : Int32), u1)))))) else (some ((-2 : Int32), u1))))))
def e_X5_say (u : Mem) (x1 : Int32) : Option (Int32 × Mem) :=
  if x1 < (33 : Int32) then (some ((-2 : Int32), u)) else (if x1 ≤ (126 : Int32) then (if (u 7 0) < (9 : Int32) then (bnv (e_X2_add u x1) (fun u1 => some ((u1 7 0), u1))) else (some ((-4 : Int32), u))) else (some ((-2 : Int32), u)))
def e_X5_wipe (u : Mem)  : Option (Int32 × Mem) :=
  some ((u 7 0), (put u 7 0 (0 : Int32)))
def e_X5_judge (u : Mem) (x1 : Int32) : Option (Int32 × Mem) :=
  if x1 < 0 then (some ((-2 : Int32), u)) else (if x1 ≤ (1 : Int32) then (bnd (e_X5_padIsLayout u ) (fun r1 u1 => if r1 = 0 then (some ((-7 : Int32), u1)) else (bnd (e_X1_pour u1 ) (fun r2 u2 => if r2 = 0 then (some ((-6 : Int32), u2)) else (if x1 = 0 then (some ((u2 9 0), u2)) else (some (r2, u2))))))) else (some ((-2 : Int32), u)))
def e_X5_told (u : Mem) (x1 : Int32) : Option (Int32 × Mem) :=
  if x1 < 0 then (some ((-2 : Int32), u)) else (if x1 ≤ (3 : Int32) then (bnd (e_X5_padIsLayout u ) (fun r1 u1 => if r1 = 0 then (some ((-7 : Int32), u1)) else (bnd (e_X1_pour u1 ) (fun r2 u2 => if r2 = 0 then (bnv (e_X1_numberPages u2 ) (fun u3 => if x1 = (0 : Int32) then (some ((u3 9 1), u3)) else (if x1 = (1 : Int32) then (some ((u3 9 4), u3)) else (if x1 = (2 : Int32) then (some ((u3 9 3), u3)) else (some ((u3 9 2), u3)))))) else (some ((-5 : Int32), u2)))))) else (some ((-2 : Int32), u)))
def e_X5_at (u : Mem) (x1 : Int32) (x2 : Int32) : Option (Int32 × Mem) :=
  bnd (e_X0_has u x1) (fun r1 u1 => if r1 = 0 then (some ((-1 : Int32), u1)) else (if x2 < 0 then (some ((-2 : Int32), u1)) else (if x2 ≤ (3 : Int32) then (bnd (e_X5_padIsLayout u1 ) (fun r2 u2 => if r2 = 0 then (some ((-7 : Int32), u2)) else (bnd (e_X1_pour u2 ) (fun r3 u3 => if r3 = 0 then (bnv (e_X1_numberPages u3 ) (fun u4 => if x2 = (0 : Int32) then (if inb x1 9 = true then some ((u4 11 (x1).toNatClampNeg), u4) else none) else (if x2 = (1 : Int32) then (if inb x1 9 = true then some ((u4 12 (x1).toNatClampNeg), u4) else none) else (if x2 = (2 : Int32) then (if inb x1 9 = true then some ((u4 13 (x1).toNatClampNeg), u4) else none) else (bnd (e_X1_width u4 x1) (fun r5 u5 => some (r5, u5))))))) else (some ((-5 : Int32), u3)))))) else (some ((-2 : Int32), u1)))))
def e_X5_best_J148 (u : Mem) (x1 : Int32) : Option (Int32 × Mem) :=
  bnd (e_X3_figure u (x1 - (10 : Int32))) (fun r8 u8 => some (r8, u8))
def e_X5_best_J55 (u : Mem) (x1 : Int32) : Option (Int32 × Mem) :=
  bnv (e_X3_run u ) (fun u2 => if x1 = (2 : Int32) then (bnd (e_X3_goes u2 ) (fun r7 u7 => some (r7, u7))) else (bnd (e_X3_goes u2 ) (fun r3 u3 => if r3 = 0 then (some ((-6 : Int32), u3)) else (if x1 = (0 : Int32) then (bnd (e_X3_fewestPages u3 ) (fun r4 u4 => some (r4, u4))) else (if x1 = (1 : Int32) then (bnd (e_X3_leastRagged u3 ) (fun r5 u5 => some (r5, u5))) else (if x1 = (2 : Int32) then (e_X5_best_J148 u3 x1) else (if x1 = (3 : Int32) then (bnd (e_X3_goesInFewest u3 ) (fun r6 u6 => some (r6, u6))) else (e_X5_best_J148 u3 x1))))))))
def e_X5_best_J34 (u : Mem) (x1 : Int32) (x2 : Int32) : Option (Int32 × Mem) :=
  if x2 = 0 then (e_X5_best_J55 u x1) else (bnd (e_X0_has u (x1 - (10 : Int32))) (fun r1 u1 => if r1 = 0 then (some ((-6 : Int32), u1)) else (e_X5_best_J55 u1 x1)))
def e_X5_best_J17 (u : Mem) (x1 : Int32) (s0 : Int32) : Option (Int32 × Mem) :=
  if s0 = 0 then (if x1 < 0 then (some ((-2 : Int32), u)) else (if x1 ≤ (3 : Int32) then (e_X5_best_J34 u x1 s0) else (some ((-2 : Int32), u)))) else (e_X5_best_J34 u x1 s0)
def e_X5_best_J16 (u : Mem) (x1 : Int32) : Option (Int32 × Mem) :=
  e_X5_best_J17 u x1 (0 : Int32)
def e_X5_best (u : Mem) (x1 : Int32) : Option (Int32 × Mem) :=
  if x1 < (10 : Int32) then (e_X5_best_J16 u x1) else (if (19 : Int32) ≤ x1 then (e_X5_best_J16 u x1) else (e_X5_best_J17 u x1 (1 : Int32)))
def e_X5_lay_L34_b (go : Mem → Int32 → Option (Int32 × Mem)) (u : Mem) (x1 : Int32) : Option (Int32 × Mem) :=
  if (u 1 0) ≤ x1 then (some ((u 7 0), u)) else (bnd (e_X3_figure u x1) (fun r3 u3 => bnv (e_X2_add u3 ((48 : Int32) + r3)) (fun u4 => go u4 (x1 + (1 : Int32)))))
def e_X5_lay_L34 : Nat → Mem → Int32 → Option (Int32 × Mem)
  | 0 => fun _ _ => none
  | f + 1 => e_X5_lay_L34_b (e_X5_lay_L34 f)
def e_X5_lay (u : Mem)  : Option (Int32 × Mem) :=
  bnv (e_X3_run u ) (fun u1 => bnd (e_X3_goes u1 ) (fun r2 u2 => if r2 = 0 then (some ((-5 : Int32), u2)) else (e_X5_lay_L34 FU (put u2 7 0 (0 : Int32)) (0 : Int32))))
def e_X5_talk_L48_b (go : Mem → Int32 → Int32 → Int32 → Option (Int32 × Mem)) (u : Mem) (x1 : Int32) (x2 : Int32) (x3 : Int32) : Option (Int32 × Mem) :=
  if x2 ≤ x3 then (if inb x1 9 = true then some (x2, (put (put u 5 (x1).toNatClampNeg x2) 7 0 (0 : Int32))) else none) else (bnd (e_X2_figure u x3) (fun r3 u3 => if inb ((x1 * (4 : Int32)) + x3) 36 = true then go (put u3 6 (((x1 * (4 : Int32)) + x3)).toNatClampNeg r3) x1 x2 (x3 + (1 : Int32)) else none))
def e_X5_talk_L48 : Nat → Mem → Int32 → Int32 → Int32 → Option (Int32 × Mem)
  | 0 => fun _ _ _ _ => none
  | f + 1 => e_X5_talk_L48_b (e_X5_talk_L48 f)
def e_X5_talk (u : Mem) (x1 : Int32) : Option (Int32 × Mem) :=
  bnd (e_X0_has u x1) (fun r1 u1 => if r1 = 0 then (some ((-1 : Int32), u1)) else (if (4 : Int32) < (u1 7 0) then (some ((-7 : Int32), u1)) else (bnd (e_X2_hasOnlyFigures u1 (3 : Int32)) (fun r2 u2 => if r2 = 0 then (some ((-7 : Int32), u2)) else (e_X5_talk_L48 FU u2 x1 (u2 7 0) (0 : Int32))))))
def e_X5_speaker (u : Mem) (x1 : Int32) (x2 : Int32) : Option (Int32 × Mem) :=
  bnd (e_X0_has u x1) (fun r1 u1 => if r1 = 0 then (some ((-1 : Int32), u1)) else (if x2 < 0 then (some ((-6 : Int32), u1)) else (if inb x1 9 = true then if x2 < (u1 5 (x1).toNatClampNeg) then (bnd (e_X0_speakerColumn u1 x1 x2) (fun r2 u2 => some (r2, u2))) else (some ((-6 : Int32), u1)) else none)))
def e_X5_good_J70 (u : Mem) (x1 : Int32) (x2 : Int32) : Option (Int32 × Mem) :=
  bnv (e_X4_findGood u x1) (fun u2 => if x2 = 0 then (some ((u2 31 2), u2)) else (if (u2 31 2) = 0 then (some ((-6 : Int32), u2)) else (if x2 = (1 : Int32) then (some ((u2 31 3), u2)) else (if x2 = (2 : Int32) then (some ((u2 31 4), u2)) else (if inb (x2 - (10 : Int32)) 4 = true then some ((u2 33 ((x2 - (10 : Int32))).toNatClampNeg), u2) else none)))))
def e_X5_good_J47 (u : Mem) (x1 : Int32) (x2 : Int32) (x3 : Int32) : Option (Int32 × Mem) :=
  if x3 = 0 then (e_X5_good_J70 u x1 x2) else (if inb x1 9 = true then if (x2 - (10 : Int32)) < (u 5 (x1).toNatClampNeg) then (e_X5_good_J70 u x1 x2) else (some ((-6 : Int32), u)) else none)
def e_X5_good_J30 (u : Mem) (x1 : Int32) (x2 : Int32) (s0 : Int32) : Option (Int32 × Mem) :=
  if s0 = 0 then (if x2 < 0 then (some ((-2 : Int32), u)) else (if x2 ≤ (2 : Int32) then (e_X5_good_J47 u x1 x2 s0) else (some ((-2 : Int32), u)))) else (e_X5_good_J47 u x1 x2 s0)
def e_X5_good_J29 (u : Mem) (x1 : Int32) (x2 : Int32) : Option (Int32 × Mem) :=
  e_X5_good_J30 u x1 x2 (0 : Int32)
def e_X5_good (u : Mem) (x1 : Int32) (x2 : Int32) : Option (Int32 × Mem) :=
  bnd (e_X0_has u x1) (fun r1 u1 => if r1 = 0 then (some ((-1 : Int32), u1)) else (if x2 < (10 : Int32) then (e_X5_good_J29 u1 x1 x2) else (if (14 : Int32) ≤ x2 then (e_X5_good_J29 u1 x1 x2) else (e_X5_good_J30 u1 x1 x2 (1 : Int32)))))
def e_X5_isGood_L26_b (go : Mem → Int32 → Int32 → Option (Int32 × Mem)) (u : Mem) (x1 : Int32) (x2 : Int32) : Option (Int32 × Mem) :=
  if inb x1 9 = true then if (u 5 (x1).toNatClampNeg) ≤ x2 then (some ((1 : Int32), u)) else (bnd (e_X2_figure u ((2 : Int32) * x2)) (fun r3 u3 => bnd (e_X2_figure u3 (((2 : Int32) * x2) + (1 : Int32))) (fun r4 u4 => if inb x2 4 = true then bnd (e_X4_fits (put u4 32 (x2).toNatClampNeg (((4 : Int32) * r3) + r4)) x1 x2) (fun r5 u5 => if r5 = 0 then (some ((0 : Int32), u5)) else (go u5 x1 (x2 + (1 : Int32)))) else none))) else none
def e_X5_isGood_L26 : Nat → Mem → Int32 → Int32 → Option (Int32 × Mem)
  | 0 => fun _ _ _ => none
  | f + 1 => e_X5_isGood_L26_b (e_X5_isGood_L26 f)
def e_X5_isGood (u : Mem) (x1 : Int32) : Option (Int32 × Mem) :=
  bnd (e_X0_has u x1) (fun r1 u1 => if r1 = 0 then (some ((-1 : Int32), u1)) else (bnd (e_X5_padIsSetting u1 x1) (fun r2 u2 => if r2 = 0 then (some ((-7 : Int32), u2)) else (e_X5_isGood_L26 FU u2 x1 (0 : Int32)))))
def e_X5_image (u : Mem) (x1 : Int32) : Option (Int32 × Mem) :=
  if x1 < 0 then (some ((-2 : Int32), u)) else (if x1 < (2 : Int32) then (if x1 = 0 then (bnv (e_X0_copyFrom_35_1 u ) (fun u1 => some ((1 : Int32), (put u1 0 6 ((u1 0 6) ||| ((1 : Int32) <<< (x1 &&& 31))))))) else if x1 = 1 then (bnv (e_X0_copyFrom_41_1 u ) (fun u2 => some ((1 : Int32), (put u2 0 6 ((u2 0 6) ||| ((1 : Int32) <<< (x1 &&& 31))))))) else none) else (some ((-2 : Int32), u)))
def e_X5_restore (u : Mem) (x1 : Int32) : Option (Int32 × Mem) :=
  if x1 < 0 then (some ((-2 : Int32), u)) else (if x1 < (2 : Int32) then (if ((u 0 6) &&& ((1 : Int32) <<< (x1 &&& 31))) = 0 then (some ((-3 : Int32), u)) else (if x1 = 0 then (bnv (e_X0_copyFrom_1_35 u ) (fun u1 => some ((1 : Int32), u1))) else if x1 = 1 then (bnv (e_X0_copyFrom_1_41 u ) (fun u2 => some ((1 : Int32), u2))) else none)) else (some ((-2 : Int32), u)))
def e_X5_count (u : Mem) (x1 : Int32) : Option (Int32 × Mem) :=
  if x1 = (0 : Int32) then (some ((u 1 0), u)) else (if x1 = (1 : Int32) then (some ((u 1 1), u)) else (if x1 = (2 : Int32) then (some ((u 7 0), u)) else (if x1 = (3 : Int32) then (bnd (e_X0_allBalloons u ) (fun r1 u1 => some (r1, u1))) else (if x1 = (4 : Int32) then (some ((u 0 6), u)) else (some ((-2 : Int32), u))))))
def e_X6_in (u : Mem) (x0 : Int32) (x1 : Int32) (x2 : Int32) : Option (Int32 × Mem) :=
  if x0 < x1 then (some ((0 : Int32), u)) else (if x2 < x0 then (some ((0 : Int32), u)) else (some ((1 : Int32), u)))
def e_X6_fits (u : Mem) (x0 : Int32) (x1 : Int32) : Option (Int32 × Mem) :=
  if x0 = 0 then (bnd (e_X6_in u x1 (1 : Int32) (9 : Int32)) (fun r3 u3 => if vz r3 = true then some (r3, u3) else none)) else (if x0 = (1 : Int32) then (bnd (e_X6_in u x1 (1 : Int32) (6 : Int32)) (fun r2 u2 => if vz r2 = true then some (r2, u2) else none)) else (bnd (e_X6_in u x1 (0 : Int32) (3 : Int32)) (fun r1 u1 => if vz r1 = true then some (r1, u1) else none)))
def e_X6_many (u : Mem)  : Option (Int32 × Mem) :=
  if inb (72 : Int32) 74 = true then some ((u 1 ((72 : Int32)).toNatClampNeg), u) else none
def e_X6_isPanel (u : Mem) (x1 : Int32) : Option (Int32 × Mem) :=
  bnd (e_X6_many u ) (fun r1 u1 => bnd (e_X6_in u1 x1 (0 : Int32) (r1 - (1 : Int32))) (fun r2 u2 => if vz r2 = true then some (r2, u2) else none))
def e_X6_panel (u : Mem) (x1 : Int32) (x2 : Int32) (x3 : Int32) : Option (Int32 × Mem) :=
  bnd (e_X6_fits u (0 : Int32) x1) (fun r1 u1 => if r1 = 0 then (some ((-2 : Int32), u1)) else (bnd (e_X6_fits u1 (1 : Int32) x2) (fun r2 u2 => if r2 = 0 then (some ((-2 : Int32), u2)) else (bnd (e_X6_fits u2 (2 : Int32) x3) (fun r3 u3 => if r3 = 0 then (some ((-2 : Int32), u3)) else (bnd (e_X6_many u3 ) (fun r4 u4 => if r4 = (9 : Int32) then (some ((-4 : Int32), u4)) else (if inb ((0 : Int32) + r4) 74 = true then if inb ((9 : Int32) + r4) 74 = true then if inb ((18 : Int32) + r4) 74 = true then if inb ((27 : Int32) + r4) 74 = true then if inb (72 : Int32) 74 = true then if inb (72 : Int32) 74 = true then some (r4, (put (put (put (put (put u4 1 (((0 : Int32) + r4)).toNatClampNeg x1) 1 (((9 : Int32) + r4)).toNatClampNeg x2) 1 (((18 : Int32) + r4)).toNatClampNeg x3) 1 (((27 : Int32) + r4)).toNatClampNeg (0 : Int32)) 1 ((72 : Int32)).toNatClampNeg (((put (put (put (put u4 1 (((0 : Int32) + r4)).toNatClampNeg x1) 1 (((9 : Int32) + r4)).toNatClampNeg x2) 1 (((18 : Int32) + r4)).toNatClampNeg x3) 1 (((27 : Int32) + r4)).toNatClampNeg (0 : Int32)) 1 ((72 : Int32)).toNatClampNeg) + (1 : Int32)))) else none else none else none else none else none else none))))))))
def e_X6_pop (u : Mem)  : Option (Int32 × Mem) :=
  bnd (e_X6_many u ) (fun r1 u1 => if r1 = 0 then (some ((-5 : Int32), u1)) else (if inb (72 : Int32) 74 = true then if inb (72 : Int32) 74 = true then bnd (e_X6_many (put u1 1 ((72 : Int32)).toNatClampNeg ((u1 1 ((72 : Int32)).toNatClampNeg) - (1 : Int32))) ) (fun r2 u2 => if inb ((27 : Int32) + r2) 74 = true then bnd (e_X6_many (put u2 1 (((27 : Int32) + r2)).toNatClampNeg (0 : Int32)) ) (fun r3 u3 => some (r3, u3)) else none) else none else none))
def e_X6_change (u : Mem) (x1 : Int32) (x2 : Int32) (x3 : Int32) : Option (Int32 × Mem) :=
  bnd (e_X6_isPanel u x1) (fun r1 u1 => if r1 = 0 then (some ((-1 : Int32), u1)) else (bnd (e_X6_in u1 x2 (0 : Int32) (2 : Int32)) (fun r2 u2 => if r2 = 0 then (some ((-2 : Int32), u2)) else (bnd (e_X6_fits u2 x2 x3) (fun r3 u3 => if r3 = 0 then (some ((-2 : Int32), u3)) else (if inb (((9 : Int32) * x2) + x1) 74 = true then if inb (((9 : Int32) * x2) + x1) 74 = true then some ((u3 1 ((((9 : Int32) * x2) + x1)).toNatClampNeg), (put u3 1 ((((9 : Int32) * x2) + x1)).toNatClampNeg x3)) else none else none))))))
def e_X6_high (u : Mem) (x1 : Int32) : Option (Int32 × Mem) :=
  bnd (e_X6_in u x1 (6 : Int32) (20 : Int32)) (fun r1 u1 => if r1 = 0 then (some ((-2 : Int32), u1)) else (if inb (73 : Int32) 74 = true then if inb (73 : Int32) 74 = true then some ((u1 1 ((73 : Int32)).toNatClampNeg), (put u1 1 ((73 : Int32)).toNatClampNeg x1)) else none else none))
def e_X6_of (u : Mem) (x1 : Int32) (x2 : Int32) : Option (Int32 × Mem) :=
  bnd (e_X6_isPanel u x1) (fun r1 u1 => if r1 = 0 then (some ((-1 : Int32), u1)) else (bnd (e_X6_in u1 x2 (0 : Int32) (3 : Int32)) (fun r2 u2 => if r2 = 0 then (some ((-2 : Int32), u2)) else (if inb (((9 : Int32) * x2) + x1) 74 = true then some ((u2 1 ((((9 : Int32) * x2) + x1)).toNatClampNeg), u2) else none))))
def e_X6_heightOf_J41 (k5 : Mem → Int32 → Int32 → Int32 → Int32 → Option (Int32 × Mem)) (u : Mem) (x1 : Int32) (x2 : Int32) (x4 : Int32) (s0 : Int32) : Option (Int32 × Mem) :=
  k5 u x1 x2 s0 (x4 + (1 : Int32))
def e_X6_heightOf_L5_b (go : Mem → Int32 → Int32 → Int32 → Int32 → Option (Int32 × Mem)) (u : Mem) (x1 : Int32) (x2 : Int32) (x3 : Int32) (x4 : Int32) : Option (Int32 × Mem) :=
  if (x1 + x2) ≤ x4 then (some (x3, u)) else (if inb ((9 : Int32) + x4) 74 = true then if (u 1 (((9 : Int32) + x4)).toNatClampNeg) ≤ x3 then (e_X6_heightOf_J41 go u x1 x2 x4 x3) else (if inb ((9 : Int32) + x4) 74 = true then e_X6_heightOf_J41 go u x1 x2 x4 (u 1 (((9 : Int32) + x4)).toNatClampNeg) else none) else none)
def e_X6_heightOf_L5 : Nat → Mem → Int32 → Int32 → Int32 → Int32 → Option (Int32 × Mem)
  | 0 => fun _ _ _ _ _ => none
  | f + 1 => e_X6_heightOf_L5_b (e_X6_heightOf_L5 f)
def e_X6_heightOf (u : Mem) (x1 : Int32) (x2 : Int32) : Option (Int32 × Mem) :=
  e_X6_heightOf_L5 FU u x1 x2 (0 : Int32) x1
def e_X6_gapsOf_L13_b (go : Mem → Int32 → Int32 → Int32 → Int32 → Int32 → Option (Int32 × Mem)) (u : Mem) (x1 : Int32) (x2 : Int32) (x3 : Int32) (x4 : Int32) (x5 : Int32) : Option (Int32 × Mem) :=
  if (x1 + x2) ≤ x5 then (some (x4, u)) else (if inb ((9 : Int32) + x5) 74 = true then go u x1 x2 x3 (x4 + (x3 - (u 1 (((9 : Int32) + x5)).toNatClampNeg))) (x5 + (1 : Int32)) else none)
def e_X6_gapsOf_L13 : Nat → Mem → Int32 → Int32 → Int32 → Int32 → Int32 → Option (Int32 × Mem)
  | 0 => fun _ _ _ _ _ _ => none
  | f + 1 => e_X6_gapsOf_L13_b (e_X6_gapsOf_L13 f)
def e_X6_gapsOf (u : Mem) (x1 : Int32) (x2 : Int32) : Option (Int32 × Mem) :=
  bnd (e_X6_heightOf u x1 x2) (fun r1 u1 => e_X6_gapsOf_L13 FU u1 x1 x2 r1 (0 : Int32) x1)
def e_X6_nextWider_J29 (k4 : Mem → Int32 → Int32 → Int32 → Option (Int32 × Mem)) (u : Mem) (x1 : Int32) (x3 : Int32) (s0 : Int32) : Option (Int32 × Mem) :=
  k4 u x1 s0 (x3 + (1 : Int32))
def e_X6_nextWider_L4_b (go : Mem → Int32 → Int32 → Int32 → Option (Int32 × Mem)) (u : Mem) (x1 : Int32) (x2 : Int32) (x3 : Int32) : Option (Int32 × Mem) :=
  if x1 ≤ x3 then (some (x2, u)) else (if inb x3 4 = true then if inb x2 4 = true then if (u 6 (x3).toNatClampNeg) ≤ (u 6 (x2).toNatClampNeg) then (e_X6_nextWider_J29 go u x1 x3 x2) else (e_X6_nextWider_J29 go u x1 x3 x3) else none else none)
def e_X6_nextWider_L4 : Nat → Mem → Int32 → Int32 → Int32 → Option (Int32 × Mem)
  | 0 => fun _ _ _ _ => none
  | f + 1 => e_X6_nextWider_L4_b (e_X6_nextWider_L4 f)
def e_X6_nextWider (u : Mem) (x1 : Int32) : Option (Int32 × Mem) :=
  e_X6_nextWider_L4 FU u x1 (0 : Int32) (1 : Int32)
def e_X6_layWidths_L100_b (go : Mem → Int32 → Int32 → Option Mem) (u : Mem) (x2 : Int32) (x4 : Int32) : Option Mem :=
  if x4 ≤ 0 then (some u) else (bnd (e_X6_nextWider u x2) (fun r1 u1 => if inb r1 4 = true then if inb r1 4 = true then if inb r1 4 = true then go (put (put u1 5 (r1).toNatClampNeg ((u1 5 (r1).toNatClampNeg) + (1 : Int32))) 6 (r1).toNatClampNeg (-1 : Int32)) x2 (x4 + (-1 : Int32)) else none else none else none))
def e_X6_layWidths_L100 : Nat → Mem → Int32 → Int32 → Option Mem
  | 0 => fun _ _ _ => none
  | f + 1 => e_X6_layWidths_L100_b (e_X6_layWidths_L100 f)
def e_X6_layWidths_L38_b (go : Mem → Int32 → Int32 → Int32 → Int32 → Int32 → Option Mem) (u : Mem) (x1 : Int32) (x2 : Int32) (x3 : Int32) (x4 : Int32) (x5 : Int32) : Option Mem :=
  if x2 ≤ x5 then (e_X6_layWidths_L100 FU u x2 x4) else (if inb (((0 : Int32) + x1) + x5) 74 = true then if x3 = 0 then none else if inb x5 4 = true then if x3 = 0 then none else if inb x5 4 = true then if inb x5 4 = true then go (put (put u 5 (x5).toNatClampNeg (((12 : Int32) * (u 1 ((((0 : Int32) + x1) + x5)).toNatClampNeg)) / x3)) 6 (x5).toNatClampNeg (((12 : Int32) * (u 1 ((((0 : Int32) + x1) + x5)).toNatClampNeg)) - ((12 : Int32) * (u 1 ((((0 : Int32) + x1) + x5)).toNatClampNeg)) / x3 * x3)) x1 x2 x3 (x4 - ((put u 5 (x5).toNatClampNeg (((12 : Int32) * (u 1 ((((0 : Int32) + x1) + x5)).toNatClampNeg)) / x3)) 5 (x5).toNatClampNeg)) (x5 + (1 : Int32)) else none else none else none else none)
def e_X6_layWidths_L38 : Nat → Mem → Int32 → Int32 → Int32 → Int32 → Int32 → Option Mem
  | 0 => fun _ _ _ _ _ _ => none
  | f + 1 => e_X6_layWidths_L38_b (e_X6_layWidths_L38 f)
def e_X6_layWidths_L5_b (go : Mem → Int32 → Int32 → Int32 → Int32 → Option Mem) (u : Mem) (x1 : Int32) (x2 : Int32) (x3 : Int32) (x4 : Int32) : Option Mem :=
  if x2 ≤ x4 then (e_X6_layWidths_L38 FU u x1 x2 x3 (12 : Int32) (0 : Int32)) else (if inb (((0 : Int32) + x1) + x4) 74 = true then go u x1 x2 (x3 + (u 1 ((((0 : Int32) + x1) + x4)).toNatClampNeg)) (x4 + (1 : Int32)) else none)
def e_X6_layWidths_L5 : Nat → Mem → Int32 → Int32 → Int32 → Int32 → Option Mem
  | 0 => fun _ _ _ _ _ => none
  | f + 1 => e_X6_layWidths_L5_b (e_X6_layWidths_L5 f)
def e_X6_layWidths (u : Mem) (x1 : Int32) (x2 : Int32) : Option Mem :=
  e_X6_layWidths_L5 FU u x1 x2 (0 : Int32) (0 : Int32)
def e_X6_tier_J54 (u : Mem) (x1 : Int32) (x2 : Int32) (x3 : Int32) : Option (Int32 × Mem) :=
  if x3 = 0 then (bnd (e_X6_heightOf u x1 x2) (fun r8 u8 => some (r8, u8))) else (if x3 = (1 : Int32) then (bnd (e_X6_gapsOf u x1 x2) (fun r7 u7 => some (r7, u7))) else (bnv (e_X6_layWidths u x1 x2) (fun u6 => if inb (x3 - (10 : Int32)) 4 = true then some ((u6 5 ((x3 - (10 : Int32))).toNatClampNeg), u6) else none)))
def e_X6_tier (u : Mem) (x1 : Int32) (x2 : Int32) (x3 : Int32) : Option (Int32 × Mem) :=
  bnd (e_X6_isPanel u x1) (fun r1 u1 => if r1 = 0 then (some ((-1 : Int32), u1)) else (bnd (e_X6_in u1 x2 (1 : Int32) (4 : Int32)) (fun r2 u2 => if r2 = 0 then (some ((-2 : Int32), u2)) else (bnd (e_X6_many u2 ) (fun r3 u3 => if r3 < (x1 + x2) then (some ((-2 : Int32), u3)) else (bnd (e_X6_in u3 x3 (0 : Int32) (1 : Int32)) (fun r4 u4 => if r4 = 0 then (bnd (e_X6_in u4 x3 (10 : Int32) ((9 : Int32) + x2)) (fun r5 u5 => if r5 = 0 then (some ((-2 : Int32), u5)) else (e_X6_tier_J54 u5 x1 x2 x3))) else (e_X6_tier_J54 u4 x1 x2 x3))))))))
def e_X6_isKind (u : Mem) (x1 : Int32) (x2 : Int32) : Option (Int32 × Mem) :=
  if inb ((18 : Int32) + x1) 74 = true then if (u 1 (((18 : Int32) + x1)).toNatClampNeg) = x2 then (some ((1 : Int32), u)) else (some ((0 : Int32), u)) else none
def e_X6_isBy (u : Mem) (x1 : Int32) : Option (Int32 × Mem) :=
  bnd (e_X6_isKind u x1 (1 : Int32)) (fun r1 u1 => if r1 = 0 then (bnd (e_X6_isKind u1 x1 (2 : Int32)) (fun r2 u2 => if r2 = 0 then (some ((0 : Int32), u2)) else (some ((1 : Int32), u2)))) else (some ((1 : Int32), u1)))
def e_X6_isTooHigh_J96 (u : Mem) (s0 : Int32) : Option (Int32 × Mem) :=
  if inb (73 : Int32) 74 = true then if s0 ≤ (u 1 ((73 : Int32)).toNatClampNeg) then (some ((0 : Int32), u)) else (some ((1 : Int32), u)) else none
def e_X6_isTooHigh (u : Mem) (x1 : Int32) : Option (Int32 × Mem) :=
  bnd (e_X6_isKind u x1 (2 : Int32)) (fun r1 u1 => if r1 = 0 then (if inb x1 9 = true then if (u1 7 (x1).toNatClampNeg) = (2 : Int32) then (if inb ((9 : Int32) + x1) 74 = true then e_X6_isTooHigh_J96 u1 (u1 1 (((9 : Int32) + x1)).toNatClampNeg) else none) else (if inb x1 9 = true then if (u1 7 (x1).toNatClampNeg) = (1 : Int32) then (bnd (e_X6_heightOf u1 (u1 0 17) (x1 - (u1 0 17))) (fun r3 u3 => if inb ((9 : Int32) + x1) 74 = true then e_X6_isTooHigh_J96 u3 (((u1 0 16) + r3) + (u3 1 (((9 : Int32) + x1)).toNatClampNeg)) else none)) else (bnd (e_X6_heightOf u1 (u1 0 17) ((x1 - (u1 0 17)) + (1 : Int32))) (fun r2 u2 => e_X6_isTooHigh_J96 u2 ((u1 0 16) + r2))) else none) else none) else (some ((0 : Int32), u1)))
def e_X6_whyNot_J94 (u : Mem) (x1 : Int32) : Option (Int32 × Mem) :=
  bnd (e_X6_isTooHigh u x1) (fun r6 u6 => if r6 = 0 then (some ((0 : Int32), u6)) else (some ((5 : Int32), u6)))
def e_X6_whyNot_J58 (u : Mem) (x1 : Int32) (x2 : Int32) : Option (Int32 × Mem) :=
  if x2 = (2 : Int32) then (e_X6_whyNot_J94 u x1) else (bnd (e_X6_isKind u x1 (2 : Int32)) (fun r3 u3 => if r3 = 0 then (bnd (e_X6_isKind u3 x1 (3 : Int32)) (fun r4 u4 => if r4 = 0 then (bnd (e_X6_isKind u4 (x1 - (1 : Int32)) (2 : Int32)) (fun r5 u5 => if r5 = 0 then (e_X6_whyNot_J94 u5 x1) else (some ((4 : Int32), u5)))) else (some ((4 : Int32), u4)))) else (some ((4 : Int32), u3))))
def e_X6_whyNot_J34 (u : Mem) (x1 : Int32) (x2 : Int32) : Option (Int32 × Mem) :=
  if x2 = 0 then (bnd (e_X6_isBy u x1) (fun r1 u1 => if r1 = 0 then (bnd (e_X6_isBy u1 (x1 - (1 : Int32))) (fun r2 u2 => if r2 = 0 then (e_X6_whyNot_J58 u2 x1 x2) else (some ((3 : Int32), u2)))) else (some ((3 : Int32), u1)))) else (e_X6_whyNot_J58 u x1 x2)
def e_X6_whyNot_J18 (u : Mem) (x1 : Int32) (x2 : Int32) : Option (Int32 × Mem) :=
  if x2 = 0 then (if (x1 - (u 0 17)) = (4 : Int32) then (some ((2 : Int32), u)) else (e_X6_whyNot_J34 u x1 x2)) else (e_X6_whyNot_J34 u x1 x2)
def e_X6_whyNot (u : Mem) (x1 : Int32) : Option (Int32 × Mem) :=
  if inb x1 9 = true then if (u 7 (x1).toNatClampNeg) = (2 : Int32) then (e_X6_whyNot_J18 u x1 (u 7 (x1).toNatClampNeg)) else (if x1 = 0 then (some ((1 : Int32), u)) else (e_X6_whyNot_J18 u x1 (u 7 (x1).toNatClampNeg))) else none
def e_X6_squareLeft (u : Mem) (x1 : Int32) : Option (Int32 × Mem) :=
  if inb (73 : Int32) 74 = true then some ((((u 1 ((73 : Int32)).toNatClampNeg) - x1) * ((u 1 ((73 : Int32)).toNatClampNeg) - x1)), u) else none
def e_X6_endTier_J38 (u : Mem) (s0 : Int32) (s1 : Int32) : Option Mem :=
  some (put u 0 13 (s1 + s0))
def e_X6_endTier (u : Mem) (x1 : Int32) : Option Mem :=
  if x1 ≤ 0 then (some u) else (bnd (e_X6_isKind u (x1 - (1 : Int32)) (2 : Int32)) (fun r1 u1 => if r1 = 0 then (bnd (e_X6_gapsOf u1 (u1 0 17) (x1 - (u1 0 17))) (fun r2 u2 => e_X6_endTier_J38 u2 r2 (u 0 13))) else (e_X6_endTier_J38 u1 (0 : Int32) (u 0 13))))
def e_X6_endPage (u : Mem) (x1 : Int32) : Option Mem :=
  if x1 ≤ 0 then (some u) else (bnd (e_X6_isKind u (x1 - (1 : Int32)) (2 : Int32)) (fun r1 u1 => if r1 = 0 then (bnd (e_X6_heightOf u1 (u1 0 17) (x1 - (u1 0 17))) (fun r2 u2 => bnd (e_X6_squareLeft u2 ((u1 0 16) + r2)) (fun r3 u3 => some (put u3 0 13 ((u1 0 13) + r3))))) else (some u1)))
def e_X6_beginPage_J100 (u : Mem) (x1 : Int32) (s0 : Int32) (s1 : Int32) : Option Mem :=
  if inb x1 9 = true then some (put (put (put (put u 0 12 (s1 + s0)) 9 (x1).toNatClampNeg (0 : Int32)) 0 16 (0 : Int32)) 0 17 x1) else none
def e_X6_beginPage_J71 (u : Mem) (x1 : Int32) : Option Mem :=
  if inb x1 9 = true then bnd (e_X6_isKind (put u 8 (x1).toNatClampNeg (u 0 12)) x1 (2 : Int32)) (fun r5 u5 => if r5 = 0 then (e_X6_beginPage_J100 u5 x1 (1 : Int32) (u 0 12)) else (e_X6_beginPage_J100 u5 x1 (2 : Int32) (u 0 12))) else none
def e_X6_beginPage_J28 (u : Mem) (x1 : Int32) : Option Mem :=
  if ((u 0 12) - (u 0 12) / (2 : Int32) * (2 : Int32)) = 0 then (bnd (e_X6_squareLeft (put (put u 0 12 ((u 0 12) + (1 : Int32))) 0 15 ((u 0 15) + (1 : Int32))) (0 : Int32)) (fun r6 u6 => e_X6_beginPage_J71 (put u6 0 13 ((u 0 13) + r6)) x1)) else (e_X6_beginPage_J71 u x1)
def e_X6_beginPage (u : Mem) (x1 : Int32) : Option Mem :=
  bnv (e_X6_endTier u x1) (fun u1 => bnv (e_X6_endPage u1 x1) (fun u2 => bnd (e_X6_isKind u2 x1 (2 : Int32)) (fun r3 u3 => if r3 = 0 then (bnd (e_X6_isKind u3 x1 (3 : Int32)) (fun r4 u4 => if r4 = 0 then (e_X6_beginPage_J71 u4 x1) else (e_X6_beginPage_J28 u4 x1))) else (e_X6_beginPage_J28 u3 x1))))
def e_X6_put_J116 (u : Mem) (x1 : Int32) : Option Mem :=
  if inb x1 9 = true then some (put u 10 (x1).toNatClampNeg (x1 - (u 0 17))) else none
def e_X6_put (u : Mem) (x1 : Int32) : Option Mem :=
  if inb x1 9 = true then if (u 7 (x1).toNatClampNeg) = (2 : Int32) then (bnv (e_X6_beginPage u x1) (fun u3 => e_X6_put_J116 (put u3 0 14 ((u3 0 14) + (1 : Int32))) x1)) else (if inb (x1 - (1 : Int32)) 9 = true then if inb x1 9 = true then if inb (x1 - (1 : Int32)) 9 = true then if inb x1 9 = true then if inb x1 9 = true then if inb x1 9 = true then if (u 7 (x1).toNatClampNeg) = (1 : Int32) then (bnv (e_X6_endTier (put (put u 8 (x1).toNatClampNeg (u 8 ((x1 - (1 : Int32))).toNatClampNeg)) 9 (x1).toNatClampNeg ((u 9 ((x1 - (1 : Int32))).toNatClampNeg) + (u 7 (x1).toNatClampNeg))) x1) (fun u1 => bnd (e_X6_heightOf u1 (u1 0 17) (x1 - (u1 0 17))) (fun r2 u2 => e_X6_put_J116 (put (put (put u2 0 16 ((u1 0 16) + r2)) 0 17 x1) 0 14 ((u2 0 14) + (1 : Int32))) x1))) else (e_X6_put_J116 (put (put u 8 (x1).toNatClampNeg (u 8 ((x1 - (1 : Int32))).toNatClampNeg)) 9 (x1).toNatClampNeg ((u 9 ((x1 - (1 : Int32))).toNatClampNeg) + (u 7 (x1).toNatClampNeg))) x1) else none else none else none else none else none else none) else none
def e_X6_goThrough_L32_b (go : Mem → Int32 → Option (Int32 × Mem)) (u : Mem) (x1 : Int32) : Option (Int32 × Mem) :=
  bnd (e_X6_many u ) (fun r1 u1 => if r1 ≤ x1 then (bnd (e_X6_many (put u1 0 11 (-6 : Int32)) ) (fun r2 u2 => bnv (e_X6_endTier u2 r2) (fun u3 => bnd (e_X6_many u3 ) (fun r4 u4 => bnv (e_X6_endPage u4 r4) (fun u5 => some ((-6 : Int32), u5)))))) else (bnd (e_X6_whyNot u1 x1) (fun r6 u6 => if r6 ≤ 0 then (bnv (e_X6_put (put u6 0 11 r6) x1) (fun u7 => go u7 (x1 + (1 : Int32)))) else (some (x1, (put u6 0 11 r6))))))
def e_X6_goThrough_L32 : Nat → Mem → Int32 → Option (Int32 × Mem)
  | 0 => fun _ _ => none
  | f + 1 => e_X6_goThrough_L32_b (e_X6_goThrough_L32 f)
def e_X6_goThrough (u : Mem)  : Option (Int32 × Mem) :=
  e_X6_goThrough_L32 FU (put (put (put (put (put (put u 0 12 (0 : Int32)) 0 13 (0 : Int32)) 0 14 (0 : Int32)) 0 15 (0 : Int32)) 0 16 (0 : Int32)) 0 17 (0 : Int32)) (0 : Int32)
def e_X6_say (u : Mem) (x1 : Int32) : Option (Int32 × Mem) :=
  bnd (e_X6_in u x1 (33 : Int32) (126 : Int32)) (fun r1 u1 => if r1 = 0 then (some ((-2 : Int32), u1)) else (if (u1 0 4) = (9 : Int32) then (some ((-4 : Int32), u1)) else (if inb (u1 0 4) 9 = true then some (((u1 0 4) + (1 : Int32)), (put (put u1 4 ((u1 0 4)).toNatClampNeg x1) 0 4 ((u1 0 4) + (1 : Int32)))) else none)))
def e_X6_wipe (u : Mem)  : Option (Int32 × Mem) :=
  some ((u 0 4), (put u 0 4 (0 : Int32)))
def e_X6_hasFigures_J39 (k4 : Mem → Int32 → Int32 → Int32 → Option (Int32 × Mem)) (u : Mem) (x1 : Int32) (x3 : Int32) (s0 : Int32) : Option (Int32 × Mem) :=
  k4 u x1 s0 (x3 + (1 : Int32))
def e_X6_hasFigures_J38 (k4 : Mem → Int32 → Int32 → Int32 → Option (Int32 × Mem)) (u : Mem) (x1 : Int32) (x3 : Int32) : Option (Int32 × Mem) :=
  e_X6_hasFigures_J39 k4 u x1 x3 (0 : Int32)
def e_X6_hasFigures_L4_b (go : Mem → Int32 → Int32 → Int32 → Option (Int32 × Mem)) (u : Mem) (x1 : Int32) (x2 : Int32) (x3 : Int32) : Option (Int32 × Mem) :=
  if (u 0 4) ≤ x3 then (if vz x2 = true then some (x2, u) else none) else (if x2 = 0 then (e_X6_hasFigures_J38 go u x1 x3) else (if inb x3 9 = true then bnd (e_X6_in u (u 4 (x3).toNatClampNeg) (48 : Int32) ((48 : Int32) + x1)) (fun r1 u1 => if r1 = 0 then (e_X6_hasFigures_J38 go u1 x1 x3) else (e_X6_hasFigures_J39 go u1 x1 x3 (1 : Int32))) else none))
def e_X6_hasFigures_L4 : Nat → Mem → Int32 → Int32 → Int32 → Option (Int32 × Mem)
  | 0 => fun _ _ _ _ => none
  | f + 1 => e_X6_hasFigures_L4_b (e_X6_hasFigures_L4 f)
def e_X6_hasFigures (u : Mem) (x1 : Int32) : Option (Int32 × Mem) :=
  e_X6_hasFigures_L4 FU u x1 (1 : Int32) (0 : Int32)
def e_X6_isLayout (u : Mem)  : Option (Int32 × Mem) :=
  bnd (e_X6_many u ) (fun r1 u1 => if (u 0 4) = r1 then (bnd (e_X6_hasFigures u1 (2 : Int32)) (fun r2 u2 => if r2 = 0 then (some ((0 : Int32), u2)) else (some ((1 : Int32), u2)))) else (some ((0 : Int32), u1)))
def e_X6_goPad_L2_b (go : Mem → Int32 → Option (Int32 × Mem)) (u : Mem) (x1 : Int32) : Option (Int32 × Mem) :=
  bnd (e_X6_many u ) (fun r1 u1 => if r1 ≤ x1 then (bnd (e_X6_goThrough u1 ) (fun r2 u2 => some (r2, u2))) else (if inb x1 9 = true then if inb x1 9 = true then go (put u1 7 (x1).toNatClampNeg ((u1 4 (x1).toNatClampNeg) - (48 : Int32))) (x1 + (1 : Int32)) else none else none))
def e_X6_goPad_L2 : Nat → Mem → Int32 → Option (Int32 × Mem)
  | 0 => fun _ _ => none
  | f + 1 => e_X6_goPad_L2_b (e_X6_goPad_L2 f)
def e_X6_goPad (u : Mem)  : Option (Int32 × Mem) :=
  e_X6_goPad_L2 FU u (0 : Int32)
def e_X6_judge (u : Mem) (x1 : Int32) : Option (Int32 × Mem) :=
  bnd (e_X6_in u x1 (0 : Int32) (1 : Int32)) (fun r1 u1 => if r1 = 0 then (some ((-2 : Int32), u1)) else (bnd (e_X6_isLayout u1 ) (fun r2 u2 => if r2 = 0 then (some ((-7 : Int32), u2)) else (bnd (e_X6_goPad u2 ) (fun r3 u3 => if x1 = 0 then (some (r3, u3)) else (some ((u3 0 11), u3)))))))
def e_X6_told (u : Mem) (x1 : Int32) : Option (Int32 × Mem) :=
  bnd (e_X6_in u x1 (0 : Int32) (3 : Int32)) (fun r1 u1 => if r1 = 0 then (some ((-2 : Int32), u1)) else (bnd (e_X6_isLayout u1 ) (fun r2 u2 => if r2 = 0 then (some ((-7 : Int32), u2)) else (bnd (e_X6_goPad u2 ) (fun r3 u3 => if r3 < 0 then (if x1 = 0 then (some ((u3 0 12), u3)) else (if x1 = (1 : Int32) then (some ((u3 0 13), u3)) else (if x1 = (2 : Int32) then (some ((u3 0 14), u3)) else (some ((u3 0 15), u3))))) else (some ((-5 : Int32), u3)))))))
def e_X6_widthOf_J50 (u : Mem) (x1 : Int32) (x2 : Int32) (x3 : Int32) : Option (Int32 × Mem) :=
  bnv (e_X6_layWidths u x2 x3) (fun u3 => if inb x1 9 = true then if inb (u3 10 (x1).toNatClampNeg) 4 = true then some ((u3 5 ((u3 10 (x1).toNatClampNeg)).toNatClampNeg), u3) else none else none)
def e_X6_widthOf_L23_b (go : Mem → Int32 → Int32 → Int32 → Option (Int32 × Mem)) (u : Mem) (x1 : Int32) (x2 : Int32) (x3 : Int32) : Option (Int32 × Mem) :=
  bnd (e_X6_many u ) (fun r2 u2 => if r2 ≤ (x2 + x3) then (e_X6_widthOf_J50 u2 x1 x2 x3) else (if inb (x2 + x3) 9 = true then if (u2 7 ((x2 + x3)).toNatClampNeg) = 0 then (go u2 x1 x2 (x3 + (1 : Int32))) else (e_X6_widthOf_J50 u2 x1 x2 x3) else none))
def e_X6_widthOf_L23 : Nat → Mem → Int32 → Int32 → Int32 → Option (Int32 × Mem)
  | 0 => fun _ _ _ _ => none
  | f + 1 => e_X6_widthOf_L23_b (e_X6_widthOf_L23 f)
def e_X6_widthOf (u : Mem) (x1 : Int32) : Option (Int32 × Mem) :=
  bnd (e_X6_isKind u x1 (2 : Int32)) (fun r1 u1 => if r1 = 0 then (if inb x1 9 = true then e_X6_widthOf_L23 FU u1 x1 (x1 - (u1 10 (x1).toNatClampNeg)) (1 : Int32) else none) else (some ((24 : Int32), u1)))
def e_X6_at (u : Mem) (x1 : Int32) (x2 : Int32) : Option (Int32 × Mem) :=
  bnd (e_X6_isPanel u x1) (fun r1 u1 => if r1 = 0 then (some ((-1 : Int32), u1)) else (bnd (e_X6_in u1 x2 (0 : Int32) (3 : Int32)) (fun r2 u2 => if r2 = 0 then (some ((-2 : Int32), u2)) else (bnd (e_X6_isLayout u2 ) (fun r3 u3 => if r3 = 0 then (some ((-7 : Int32), u3)) else (bnd (e_X6_goPad u3 ) (fun r4 u4 => if r4 < 0 then (if x2 = 0 then (if inb x1 9 = true then some ((u4 8 (x1).toNatClampNeg), u4) else none) else (if x2 = (1 : Int32) then (if inb x1 9 = true then some ((u4 9 (x1).toNatClampNeg), u4) else none) else (if x2 = (2 : Int32) then (if inb x1 9 = true then some ((u4 10 (x1).toNatClampNeg), u4) else none) else (bnd (e_X6_widthOf u4 x1) (fun r5 u5 => some (r5, u5)))))) else (some ((-5 : Int32), u4)))))))))
def e_X6_layNumber_L9_b (go : Mem → Int32 → Int32 → Option Mem) (u : Mem) (x2 : Int32) (x3 : Int32) : Option Mem :=
  if x3 < 0 then (some u) else (if inb x3 9 = true then go (put u 7 (x3).toNatClampNeg (x2 - x2 / (3 : Int32) * (3 : Int32))) (x2 / (3 : Int32)) (x3 + (-1 : Int32)) else none)
def e_X6_layNumber_L9 : Nat → Mem → Int32 → Int32 → Option Mem
  | 0 => fun _ _ _ => none
  | f + 1 => e_X6_layNumber_L9_b (e_X6_layNumber_L9 f)
def e_X6_layNumber (u : Mem) (x1 : Int32) : Option Mem :=
  bnd (e_X6_many u ) (fun r1 u1 => e_X6_layNumber_L9 FU u1 x1 (r1 - (1 : Int32)))
def e_X6_tryOne_J134 (u : Mem) (s0 : Int32) : Option Mem :=
  some (put u 0 21 s0)
def e_X6_tryOne_J108 (u : Mem) (s0 : Int32) : Option Mem :=
  if (u 0 21) ≤ (u 0 13) then (e_X6_tryOne_J134 (put u 0 22 s0) (u 0 21)) else (e_X6_tryOne_J134 (put u 0 22 s0) (u 0 13))
def e_X6_tryOne_J67 (u : Mem) (x1 : Int32) : Option Mem :=
  if (u 0 12) = (u 0 19) then (if (u 0 21) ≤ (u 0 13) then (e_X6_tryOne_J108 (put u 0 20 ((u 0 20) + (1 : Int32))) (u 0 22)) else (e_X6_tryOne_J108 (put u 0 20 ((u 0 20) + (1 : Int32))) x1)) else (some u)
def e_X6_tryOne_J41 (u : Mem) (x1 : Int32) : Option Mem :=
  e_X6_tryOne_J67 (put (put (put (put u 0 19 (u 0 12)) 0 20 (0 : Int32)) 0 22 x1) 0 21 (u 0 13)) x1
def e_X6_tryOne (u : Mem) (x1 : Int32) : Option Mem :=
  bnv (e_X6_layNumber u x1) (fun u1 => bnd (e_X6_goThrough u1 ) (fun r2 u2 => if r2 < 0 then (if (u2 0 22) < 0 then (e_X6_tryOne_J41 (put u2 0 18 ((u2 0 18) + (1 : Int32))) x1) else (if (u2 0 19) ≤ (u2 0 12) then (e_X6_tryOne_J67 (put u2 0 18 ((u2 0 18) + (1 : Int32))) x1) else (e_X6_tryOne_J41 (put u2 0 18 ((u2 0 18) + (1 : Int32))) x1))) else (some u2)))
def e_X6_tryAll_L53_b (go : Mem → Int32 → Int32 → Option Mem) (u : Mem) (x1 : Int32) (x2 : Int32) : Option Mem :=
  if x1 ≤ x2 then (some u) else (bnv (e_X6_tryOne u x2) (fun u2 => go u2 x1 (x2 + (1 : Int32))))
def e_X6_tryAll_L53 : Nat → Mem → Int32 → Int32 → Option Mem
  | 0 => fun _ _ _ => none
  | f + 1 => e_X6_tryAll_L53_b (e_X6_tryAll_L53 f)
def e_X6_tryAll_L33_b (go : Mem → Int32 → Int32 → Option Mem) (u : Mem) (x1 : Int32) (x2 : Int32) : Option Mem :=
  bnd (e_X6_many u ) (fun r1 u1 => if r1 ≤ x2 then (e_X6_tryAll_L53 FU u1 x1 (0 : Int32)) else (go u1 (x1 * (3 : Int32)) (x2 + (1 : Int32))))
def e_X6_tryAll_L33 : Nat → Mem → Int32 → Int32 → Option Mem
  | 0 => fun _ _ _ => none
  | f + 1 => e_X6_tryAll_L33_b (e_X6_tryAll_L33 f)
def e_X6_tryAll (u : Mem)  : Option Mem :=
  e_X6_tryAll_L33 FU (put (put (put (put (put u 0 18 (0 : Int32)) 0 19 (-6 : Int32)) 0 20 (-6 : Int32)) 0 21 (-6 : Int32)) 0 22 (-6 : Int32)) (1 : Int32) (0 : Int32)
def e_X6_bestFigure (u : Mem) (x1 : Int32) : Option (Int32 × Mem) :=
  if (u 0 22) < 0 then (some ((-6 : Int32), u)) else (bnd (e_X6_many u ) (fun r1 u1 => if x1 < r1 then (bnv (e_X6_layNumber u1 (u1 0 22)) (fun u2 => if inb x1 9 = true then some ((u2 7 (x1).toNatClampNeg), u2) else none)) else (some ((-6 : Int32), u1))))
def e_X6_best_J23 (u : Mem) (x1 : Int32) : Option (Int32 × Mem) :=
  bnv (e_X6_tryAll u ) (fun u3 => if x1 = (0 : Int32) then (some ((u3 0 19), u3)) else (if x1 = (1 : Int32) then (some ((u3 0 21), u3)) else (if x1 = (2 : Int32) then (some ((u3 0 18), u3)) else (if x1 = (3 : Int32) then (some ((u3 0 20), u3)) else (bnd (e_X6_bestFigure u3 (x1 - (10 : Int32))) (fun r4 u4 => some (r4, u4)))))))
def e_X6_best (u : Mem) (x1 : Int32) : Option (Int32 × Mem) :=
  bnd (e_X6_in u x1 (0 : Int32) (3 : Int32)) (fun r1 u1 => if r1 = 0 then (bnd (e_X6_in u1 x1 (10 : Int32) (18 : Int32)) (fun r2 u2 => if r2 = 0 then (some ((-2 : Int32), u2)) else (e_X6_best_J23 u2 x1))) else (e_X6_best_J23 u1 x1))
def e_X6_lay_L32_b (go : Mem → Int32 → Option (Int32 × Mem)) (u : Mem) (x1 : Int32) : Option (Int32 × Mem) :=
  if (u 0 4) ≤ x1 then (some ((u 0 4), u)) else (if inb x1 9 = true then if inb x1 9 = true then go (put u 4 (x1).toNatClampNeg ((48 : Int32) + (u 7 (x1).toNatClampNeg))) (x1 + (1 : Int32)) else none else none)
def e_X6_lay_L32 : Nat → Mem → Int32 → Option (Int32 × Mem)
  | 0 => fun _ _ => none
  | f + 1 => e_X6_lay_L32_b (e_X6_lay_L32 f)
def e_X6_lay (u : Mem)  : Option (Int32 × Mem) :=
  bnv (e_X6_tryAll u ) (fun u1 => if 0 ≤ (u1 0 22) then (bnv (e_X6_layNumber u1 (u1 0 22)) (fun u2 => bnd (e_X6_many u2 ) (fun r3 u3 => e_X6_lay_L32 FU (put u3 0 4 r3) (0 : Int32)))) else (some ((-5 : Int32), u1)))
def e_X6_talk_L31_b (go : Mem → Int32 → Int32 → Option (Int32 × Mem)) (u : Mem) (x1 : Int32) (x2 : Int32) : Option (Int32 × Mem) :=
  if (u 0 4) ≤ x2 then (if inb ((27 : Int32) + x1) 74 = true then if inb ((27 : Int32) + x1) 74 = true then some (((put u 1 (((27 : Int32) + x1)).toNatClampNeg (u 0 4)) 1 (((27 : Int32) + x1)).toNatClampNeg), (put (put u 1 (((27 : Int32) + x1)).toNatClampNeg (u 0 4)) 0 4 (0 : Int32))) else none else none) else (if inb x2 9 = true then if inb (((36 : Int32) + ((4 : Int32) * x1)) + x2) 74 = true then go (put u 1 ((((36 : Int32) + ((4 : Int32) * x1)) + x2)).toNatClampNeg ((u 4 (x2).toNatClampNeg) - (48 : Int32))) x1 (x2 + (1 : Int32)) else none else none)
def e_X6_talk_L31 : Nat → Mem → Int32 → Int32 → Option (Int32 × Mem)
  | 0 => fun _ _ _ => none
  | f + 1 => e_X6_talk_L31_b (e_X6_talk_L31 f)
def e_X6_talk (u : Mem) (x1 : Int32) : Option (Int32 × Mem) :=
  bnd (e_X6_isPanel u x1) (fun r1 u1 => if r1 = 0 then (some ((-1 : Int32), u1)) else (if (4 : Int32) < (u1 0 4) then (some ((-7 : Int32), u1)) else (bnd (e_X6_hasFigures u1 (3 : Int32)) (fun r2 u2 => if r2 = 0 then (some ((-7 : Int32), u2)) else (e_X6_talk_L31 FU u2 x1 (0 : Int32))))))
def e_X6_speakerAt (u : Mem) (x1 : Int32) (x2 : Int32) : Option (Int32 × Mem) :=
  if inb (((36 : Int32) + ((4 : Int32) * x1)) + x2) 74 = true then some ((u 1 ((((36 : Int32) + ((4 : Int32) * x1)) + x2)).toNatClampNeg), u) else none
def e_X6_speaker (u : Mem) (x1 : Int32) (x2 : Int32) : Option (Int32 × Mem) :=
  bnd (e_X6_isPanel u x1) (fun r1 u1 => if r1 = 0 then (some ((-1 : Int32), u1)) else (if inb ((27 : Int32) + x1) 74 = true then bnd (e_X6_in u1 x2 (0 : Int32) ((u1 1 (((27 : Int32) + x1)).toNatClampNeg) - (1 : Int32))) (fun r2 u2 => if r2 = 0 then (some ((-6 : Int32), u2)) else (bnd (e_X6_speakerAt u2 x1 x2) (fun r3 u3 => some (r3, u3)))) else none))
def e_X6_isBehind (u : Mem) (x1 : Int32) : Option (Int32 × Mem) :=
  if inb x1 4 = true then if inb (x1 - (1 : Int32)) 4 = true then if (u 11 ((x1 - (1 : Int32))).toNatClampNeg) < (u 11 (x1).toNatClampNeg) then (some ((1 : Int32), u)) else (if inb x1 4 = true then if inb (x1 - (1 : Int32)) 4 = true then if (u 11 (x1).toNatClampNeg) = (u 11 ((x1 - (1 : Int32))).toNatClampNeg) then (if inb x1 4 = true then if inb (x1 - (1 : Int32)) 4 = true then if (u 12 (x1).toNatClampNeg) ≤ (u 12 ((x1 - (1 : Int32))).toNatClampNeg) then (some ((0 : Int32), u)) else (some ((1 : Int32), u)) else none else none) else (some ((0 : Int32), u)) else none else none) else none else none
def e_X6_isNear (u : Mem) (x1 : Int32) (x2 : Int32) : Option (Int32 × Mem) :=
  if inb x2 4 = true then bnd (e_X6_speakerAt u x1 x2) (fun r1 u1 => bnd (e_X6_in u1 ((u 12 (x2).toNatClampNeg) - r1) (-1 : Int32) (1 : Int32)) (fun r2 u2 => if vz r2 = true then some (r2, u2) else none)) else none
def e_X6_goTogether_J109 (u : Mem) (x4 : Int32) (x5 : Int32) (s0 : Int32) : Option (Int32 × Mem) :=
  if x4 = 0 then (if x5 = 0 then (if s0 = 0 then (some ((1 : Int32), u)) else (some ((0 : Int32), u))) else (some ((0 : Int32), u))) else (some ((0 : Int32), u))
def e_X6_goTogether_J108 (u : Mem) (x4 : Int32) (x5 : Int32) : Option (Int32 × Mem) :=
  e_X6_goTogether_J109 u x4 x5 (0 : Int32)
def e_X6_goTogether_J72 (u : Mem) (x1 : Int32) (x2 : Int32) (x3 : Int32) (x4 : Int32) (s0 : Int32) : Option (Int32 × Mem) :=
  if inb x3 4 = true then if inb x2 4 = true then if (u 11 (x3).toNatClampNeg) ≤ (u 11 (x2).toNatClampNeg) then (e_X6_goTogether_J108 u x4 s0) else (if inb x3 4 = true then bnd (e_X6_speakerAt u x1 x2) (fun r4 u4 => if (u 12 (x3).toNatClampNeg) = r4 then (e_X6_goTogether_J109 u4 x4 s0 (1 : Int32)) else (e_X6_goTogether_J108 u4 x4 s0)) else none) else none else none
def e_X6_goTogether_J71 (u : Mem) (x1 : Int32) (x2 : Int32) (x3 : Int32) (x4 : Int32) : Option (Int32 × Mem) :=
  e_X6_goTogether_J72 u x1 x2 x3 x4 (0 : Int32)
def e_X6_goTogether_J35 (u : Mem) (x1 : Int32) (x2 : Int32) (x3 : Int32) (s0 : Int32) : Option (Int32 × Mem) :=
  if inb x2 4 = true then if inb x3 4 = true then if (u 11 (x2).toNatClampNeg) ≤ (u 11 (x3).toNatClampNeg) then (e_X6_goTogether_J71 u x1 x2 x3 s0) else (if inb x2 4 = true then bnd (e_X6_speakerAt u x1 x3) (fun r3 u3 => if (u 12 (x2).toNatClampNeg) = r3 then (e_X6_goTogether_J72 u3 x1 x2 x3 s0 (1 : Int32)) else (e_X6_goTogether_J71 u3 x1 x2 x3 s0)) else none) else none else none
def e_X6_goTogether_J34 (u : Mem) (x1 : Int32) (x2 : Int32) (x3 : Int32) : Option (Int32 × Mem) :=
  e_X6_goTogether_J35 u x1 x2 x3 (0 : Int32)
def e_X6_goTogether (u : Mem) (x1 : Int32) (x2 : Int32) (x3 : Int32) : Option (Int32 × Mem) :=
  if inb x2 4 = true then if inb x3 4 = true then if (u 11 (x2).toNatClampNeg) = (u 11 (x3).toNatClampNeg) then (bnd (e_X6_speakerAt u x1 x2) (fun r1 u1 => bnd (e_X6_speakerAt u1 x1 x3) (fun r2 u2 => if r1 ≤ r2 then (e_X6_goTogether_J34 u2 x1 x2 x3) else (e_X6_goTogether_J35 u2 x1 x2 x3 (1 : Int32))))) else (e_X6_goTogether_J34 u x1 x2 x3) else none else none
def e_X6_isGoodSetting_J87 (k4 : Mem → Int32 → Int32 → Int32 → Option (Int32 × Mem)) (k53 : Mem → Int32 → Int32 → Int32 → Int32 → Option (Int32 × Mem)) (u : Mem) (x1 : Int32) (x3 : Int32) (x4 : Int32) (s0 : Int32) : Option (Int32 × Mem) :=
  k53 u x1 s0 x3 (x4 + (1 : Int32))
def e_X6_isGoodSetting_J86 (k4 : Mem → Int32 → Int32 → Int32 → Option (Int32 × Mem)) (k53 : Mem → Int32 → Int32 → Int32 → Int32 → Option (Int32 × Mem)) (u : Mem) (x1 : Int32) (x3 : Int32) (x4 : Int32) : Option (Int32 × Mem) :=
  e_X6_isGoodSetting_J87 k4 k53 u x1 x3 x4 (0 : Int32)
def e_X6_isGoodSetting_L53_b (k4 : Mem → Int32 → Int32 → Int32 → Option (Int32 × Mem)) (go : Mem → Int32 → Int32 → Int32 → Int32 → Option (Int32 × Mem)) (u : Mem) (x1 : Int32) (x2 : Int32) (x3 : Int32) (x4 : Int32) : Option (Int32 × Mem) :=
  if inb ((27 : Int32) + x1) 74 = true then if (u 1 (((27 : Int32) + x1)).toNatClampNeg) ≤ x4 then (k4 u x1 x2 (x3 + (1 : Int32))) else (if x2 = 0 then (e_X6_isGoodSetting_J86 k4 go u x1 x3 x4) else (bnd (e_X6_goTogether u x1 x3 x4) (fun r3 u3 => if r3 = 0 then (e_X6_isGoodSetting_J86 k4 go u3 x1 x3 x4) else (e_X6_isGoodSetting_J87 k4 go u3 x1 x3 x4 (1 : Int32))))) else none
def e_X6_isGoodSetting_L53 (k4 : Mem → Int32 → Int32 → Int32 → Option (Int32 × Mem)) : Nat → Mem → Int32 → Int32 → Int32 → Int32 → Option (Int32 × Mem)
  | 0 => fun _ _ _ _ _ => none
  | f + 1 => e_X6_isGoodSetting_L53_b k4 (e_X6_isGoodSetting_L53 k4 f)
def e_X6_isGoodSetting_J47 (k4 : Mem → Int32 → Int32 → Int32 → Option (Int32 × Mem)) (u : Mem) (x1 : Int32) (x3 : Int32) (s0 : Int32) : Option (Int32 × Mem) :=
  e_X6_isGoodSetting_L53 k4 FU u x1 s0 x3 (x3 + (1 : Int32))
def e_X6_isGoodSetting_J46 (k4 : Mem → Int32 → Int32 → Int32 → Option (Int32 × Mem)) (u : Mem) (x1 : Int32) (x3 : Int32) : Option (Int32 × Mem) :=
  e_X6_isGoodSetting_J47 k4 u x1 x3 (0 : Int32)
def e_X6_isGoodSetting_J42 (k4 : Mem → Int32 → Int32 → Int32 → Option (Int32 × Mem)) (u : Mem) (x1 : Int32) (x3 : Int32) : Option (Int32 × Mem) :=
  e_X6_isGoodSetting_J47 k4 u x1 x3 (1 : Int32)
def e_X6_isGoodSetting_L4_b (go : Mem → Int32 → Int32 → Int32 → Option (Int32 × Mem)) (u : Mem) (x1 : Int32) (x2 : Int32) (x3 : Int32) : Option (Int32 × Mem) :=
  if inb ((27 : Int32) + x1) 74 = true then if (u 1 (((27 : Int32) + x1)).toNatClampNeg) ≤ x3 then (if vz x2 = true then some (x2, u) else none) else (if x2 = 0 then (e_X6_isGoodSetting_J46 go u x1 x3) else (bnd (e_X6_isNear u x1 x3) (fun r1 u1 => if r1 = 0 then (e_X6_isGoodSetting_J46 go u1 x1 x3) else (if x3 = 0 then (e_X6_isGoodSetting_J42 go u1 x1 x3) else (bnd (e_X6_isBehind u1 x3) (fun r2 u2 => if r2 = 0 then (e_X6_isGoodSetting_J46 go u2 x1 x3) else (e_X6_isGoodSetting_J42 go u2 x1 x3))))))) else none
def e_X6_isGoodSetting_L4 : Nat → Mem → Int32 → Int32 → Int32 → Option (Int32 × Mem)
  | 0 => fun _ _ _ _ => none
  | f + 1 => e_X6_isGoodSetting_L4_b (e_X6_isGoodSetting_L4 f)
def e_X6_isGoodSetting (u : Mem) (x1 : Int32) : Option (Int32 × Mem) :=
  e_X6_isGoodSetting_L4 FU u x1 (1 : Int32) (0 : Int32)
def e_X6_laySetting_L15_b (go : Mem → Int32 → Int32 → Option Mem) (u : Mem) (x3 : Int32) (x4 : Int32) : Option Mem :=
  if x4 < 0 then (some u) else (if inb x4 4 = true then if inb x4 4 = true then go (put (put u 11 (x4).toNatClampNeg ((x3 - x3 / (12 : Int32) * (12 : Int32)) / (4 : Int32))) 12 (x4).toNatClampNeg (x3 - x3 / (4 : Int32) * (4 : Int32))) (x3 / (12 : Int32)) (x4 + (-1 : Int32)) else none else none)
def e_X6_laySetting_L15 : Nat → Mem → Int32 → Int32 → Option Mem
  | 0 => fun _ _ _ => none
  | f + 1 => e_X6_laySetting_L15_b (e_X6_laySetting_L15 f)
def e_X6_laySetting (u : Mem) (x1 : Int32) (x2 : Int32) : Option Mem :=
  if inb ((27 : Int32) + x1) 74 = true then e_X6_laySetting_L15 FU u x2 ((u 1 (((27 : Int32) + x1)).toNatClampNeg) - (1 : Int32)) else none
def e_X6_deepOf_J41 (k4 : Mem → Int32 → Int32 → Int32 → Option (Int32 × Mem)) (u : Mem) (x1 : Int32) (x3 : Int32) (s0 : Int32) : Option (Int32 × Mem) :=
  k4 u x1 s0 (x3 + (1 : Int32))
def e_X6_deepOf_L4_b (go : Mem → Int32 → Int32 → Int32 → Option (Int32 × Mem)) (u : Mem) (x1 : Int32) (x2 : Int32) (x3 : Int32) : Option (Int32 × Mem) :=
  if inb ((27 : Int32) + x1) 74 = true then if (u 1 (((27 : Int32) + x1)).toNatClampNeg) ≤ x3 then (some (x2, u)) else (if inb x3 4 = true then if ((u 11 (x3).toNatClampNeg) + (1 : Int32)) ≤ x2 then (e_X6_deepOf_J41 go u x1 x3 x2) else (if inb x3 4 = true then e_X6_deepOf_J41 go u x1 x3 ((u 11 (x3).toNatClampNeg) + (1 : Int32)) else none) else none) else none
def e_X6_deepOf_L4 : Nat → Mem → Int32 → Int32 → Int32 → Option (Int32 × Mem)
  | 0 => fun _ _ _ _ => none
  | f + 1 => e_X6_deepOf_L4_b (e_X6_deepOf_L4 f)
def e_X6_deepOf (u : Mem) (x1 : Int32) : Option (Int32 × Mem) :=
  e_X6_deepOf_L4 FU u x1 (0 : Int32) (0 : Int32)
def e_X6_tryAllSettings_J144 (k53 : Mem → Int32 → Int32 → Int32 → Option Mem) (u : Mem) (x1 : Int32) (x2 : Int32) (x3 : Int32) : Option Mem :=
  k53 u x1 x2 (x3 + (1 : Int32))
def e_X6_tryAllSettings_J140 (k53 : Mem → Int32 → Int32 → Int32 → Option Mem) (u : Mem) (x1 : Int32) (x2 : Int32) (x3 : Int32) (s0 : Int32) (s1 : Int32) : Option Mem :=
  e_X6_tryAllSettings_J144 k53 (put u 0 27 (s1 + s0)) x1 x2 x3
def e_X6_tryAllSettings_J121 (k53 : Mem → Int32 → Int32 → Int32 → Option Mem) (u : Mem) (x1 : Int32) (x2 : Int32) (x3 : Int32) (x4 : Int32) : Option Mem :=
  if x4 = (u 0 26) then (e_X6_tryAllSettings_J140 k53 u x1 x2 x3 (1 : Int32) (u 0 27)) else (e_X6_tryAllSettings_J140 k53 u x1 x2 x3 (0 : Int32) (u 0 27))
def e_X6_tryAllSettings_J105 (k53 : Mem → Int32 → Int32 → Int32 → Option Mem) (u : Mem) (x1 : Int32) (x2 : Int32) (x3 : Int32) (x4 : Int32) : Option Mem :=
  e_X6_tryAllSettings_J121 k53 (put (put (put u 0 26 x4) 0 27 (0 : Int32)) 0 28 x3) x1 x2 x3 x4
def e_X6_tryAllSettings_L53_b (go : Mem → Int32 → Int32 → Int32 → Option Mem) (u : Mem) (x1 : Int32) (x2 : Int32) (x3 : Int32) : Option Mem :=
  if x2 ≤ x3 then (some u) else (bnv (e_X6_laySetting u x1 x3) (fun u1 => bnd (e_X6_isGoodSetting u1 x1) (fun r2 u2 => if r2 = 0 then (e_X6_tryAllSettings_J144 go u2 x1 x2 x3) else (bnd (e_X6_deepOf u2 x1) (fun r3 u3 => if (u3 0 28) < 0 then (e_X6_tryAllSettings_J105 go (put u3 0 25 ((u3 0 25) + (1 : Int32))) x1 x2 x3 r3) else (if (u3 0 26) ≤ r3 then (e_X6_tryAllSettings_J121 go (put u3 0 25 ((u3 0 25) + (1 : Int32))) x1 x2 x3 r3) else (e_X6_tryAllSettings_J105 go (put u3 0 25 ((u3 0 25) + (1 : Int32))) x1 x2 x3 r3)))))))
def e_X6_tryAllSettings_L53 : Nat → Mem → Int32 → Int32 → Int32 → Option Mem
  | 0 => fun _ _ _ _ => none
  | f + 1 => e_X6_tryAllSettings_L53_b (e_X6_tryAllSettings_L53 f)
def e_X6_tryAllSettings_L27_b (go : Mem → Int32 → Int32 → Int32 → Option Mem) (u : Mem) (x1 : Int32) (x2 : Int32) (x3 : Int32) : Option Mem :=
  if inb ((27 : Int32) + x1) 74 = true then if (u 1 (((27 : Int32) + x1)).toNatClampNeg) ≤ x3 then (e_X6_tryAllSettings_L53 FU u x1 x2 (0 : Int32)) else (go u x1 (x2 * (12 : Int32)) (x3 + (1 : Int32))) else none
def e_X6_tryAllSettings_L27 : Nat → Mem → Int32 → Int32 → Int32 → Option Mem
  | 0 => fun _ _ _ _ => none
  | f + 1 => e_X6_tryAllSettings_L27_b (e_X6_tryAllSettings_L27 f)
def e_X6_tryAllSettings (u : Mem) (x1 : Int32) : Option Mem :=
  e_X6_tryAllSettings_L27 FU (put (put (put (put u 0 25 (0 : Int32)) 0 26 (-6 : Int32)) 0 27 (-6 : Int32)) 0 28 (-6 : Int32)) x1 (1 : Int32) (0 : Int32)
def e_X6_firstAt (u : Mem) (x1 : Int32) (x2 : Int32) : Option (Int32 × Mem) :=
  if (u 0 28) < 0 then (some ((-6 : Int32), u)) else (if inb ((27 : Int32) + x1) 74 = true then if x2 < (u 1 (((27 : Int32) + x1)).toNatClampNeg) then (bnv (e_X6_laySetting u x1 (u 0 28)) (fun u1 => if inb x2 4 = true then if inb x2 4 = true then some ((((4 : Int32) * (u1 11 (x2).toNatClampNeg)) + (u1 12 (x2).toNatClampNeg)), u1) else none else none)) else (some ((-6 : Int32), u)) else none)
def e_X6_good_J33 (u : Mem) (x1 : Int32) (x2 : Int32) : Option (Int32 × Mem) :=
  bnv (e_X6_tryAllSettings u x1) (fun u4 => if x2 = (0 : Int32) then (some ((u4 0 25), u4)) else (if x2 = (1 : Int32) then (some ((u4 0 26), u4)) else (if x2 = (2 : Int32) then (some ((u4 0 27), u4)) else (bnd (e_X6_firstAt u4 x1 (x2 - (10 : Int32))) (fun r5 u5 => some (r5, u5))))))
def e_X6_good (u : Mem) (x1 : Int32) (x2 : Int32) : Option (Int32 × Mem) :=
  bnd (e_X6_isPanel u x1) (fun r1 u1 => if r1 = 0 then (some ((-1 : Int32), u1)) else (bnd (e_X6_in u1 x2 (0 : Int32) (2 : Int32)) (fun r2 u2 => if r2 = 0 then (bnd (e_X6_in u2 x2 (10 : Int32) (13 : Int32)) (fun r3 u3 => if r3 = 0 then (some ((-2 : Int32), u3)) else (e_X6_good_J33 u3 x1 x2))) else (e_X6_good_J33 u2 x1 x2))))
def e_X6_isSetting_J59 (k26 : Mem → Int32 → Int32 → Option (Int32 × Mem)) (u : Mem) (x3 : Int32) (s0 : Int32) (s1 : Int32) (s2 : Int32) : Option (Int32 × Mem) :=
  bnd (e_X6_in u s2 s1 s0) (fun r1 u1 => k26 u1 r1 (x3 + (1 : Int32)))
def e_X6_isSetting_L26_b (go : Mem → Int32 → Int32 → Option (Int32 × Mem)) (u : Mem) (x2 : Int32) (x3 : Int32) : Option (Int32 × Mem) :=
  if (u 0 4) ≤ x3 then (if vz x2 = true then some (x2, u) else none) else (if x2 = 0 then (if vz x2 = true then some (x2, u) else none) else (if inb x3 9 = true then if (x3 - x3 / (2 : Int32) * (2 : Int32)) = 0 then (e_X6_isSetting_J59 go u x3 (50 : Int32) (48 : Int32) (u 4 (x3).toNatClampNeg)) else (e_X6_isSetting_J59 go u x3 (51 : Int32) (48 : Int32) (u 4 (x3).toNatClampNeg)) else none))
def e_X6_isSetting_L26 : Nat → Mem → Int32 → Int32 → Option (Int32 × Mem)
  | 0 => fun _ _ _ => none
  | f + 1 => e_X6_isSetting_L26_b (e_X6_isSetting_L26 f)
def e_X6_isSetting_J23 (u : Mem) (s0 : Int32) : Option (Int32 × Mem) :=
  e_X6_isSetting_L26 FU u s0 (0 : Int32)
def e_X6_isSetting (u : Mem) (x1 : Int32) : Option (Int32 × Mem) :=
  if inb ((27 : Int32) + x1) 74 = true then if (u 0 4) = ((2 : Int32) * (u 1 (((27 : Int32) + x1)).toNatClampNeg)) then (e_X6_isSetting_J23 u (1 : Int32)) else (e_X6_isSetting_J23 u (0 : Int32)) else none
def e_X6_isGood_L23_b (go : Mem → Int32 → Int32 → Option (Int32 × Mem)) (u : Mem) (x1 : Int32) (x2 : Int32) : Option (Int32 × Mem) :=
  if inb ((27 : Int32) + x1) 74 = true then if (u 1 (((27 : Int32) + x1)).toNatClampNeg) ≤ x2 then (bnd (e_X6_isGoodSetting u x1) (fun r3 u3 => if r3 = 0 then (some ((0 : Int32), u3)) else (some ((1 : Int32), u3)))) else (if inb ((2 : Int32) * x2) 9 = true then if inb x2 4 = true then if inb (((2 : Int32) * x2) + (1 : Int32)) 9 = true then if inb x2 4 = true then go (put (put u 11 (x2).toNatClampNeg ((u 4 (((2 : Int32) * x2)).toNatClampNeg) - (48 : Int32))) 12 (x2).toNatClampNeg ((u 4 ((((2 : Int32) * x2) + (1 : Int32))).toNatClampNeg) - (48 : Int32))) x1 (x2 + (1 : Int32)) else none else none else none else none) else none
def e_X6_isGood_L23 : Nat → Mem → Int32 → Int32 → Option (Int32 × Mem)
  | 0 => fun _ _ _ => none
  | f + 1 => e_X6_isGood_L23_b (e_X6_isGood_L23 f)
def e_X6_isGood (u : Mem) (x1 : Int32) : Option (Int32 × Mem) :=
  bnd (e_X6_isPanel u x1) (fun r1 u1 => if r1 = 0 then (some ((-1 : Int32), u1)) else (bnd (e_X6_isSetting u1 x1) (fun r2 u2 => if r2 = 0 then (some ((-7 : Int32), u2)) else (e_X6_isGood_L23 FU u2 x1 (0 : Int32)))))
def e_X6_image_L14_b (go : Mem → Int32 → Int32 → Option (Int32 × Mem)) (u : Mem) (x1 : Int32) (x2 : Int32) : Option (Int32 × Mem) :=
  if (74 : Int32) ≤ x2 then (if inb x1 2 = true then some ((1 : Int32), (put u 3 (x1).toNatClampNeg (1 : Int32))) else none) else (if inb x2 74 = true then if inb (((74 : Int32) * x1) + x2) 148 = true then go (put u 2 ((((74 : Int32) * x1) + x2)).toNatClampNeg (u 1 (x2).toNatClampNeg)) x1 (x2 + (1 : Int32)) else none else none)
def e_X6_image_L14 : Nat → Mem → Int32 → Int32 → Option (Int32 × Mem)
  | 0 => fun _ _ _ => none
  | f + 1 => e_X6_image_L14_b (e_X6_image_L14 f)
def e_X6_image (u : Mem) (x1 : Int32) : Option (Int32 × Mem) :=
  bnd (e_X6_in u x1 (0 : Int32) (1 : Int32)) (fun r1 u1 => if r1 = 0 then (some ((-2 : Int32), u1)) else (e_X6_image_L14 FU u1 x1 (0 : Int32)))
def e_X6_restore_L26_b (go : Mem → Int32 → Int32 → Option (Int32 × Mem)) (u : Mem) (x1 : Int32) (x2 : Int32) : Option (Int32 × Mem) :=
  if (74 : Int32) ≤ x2 then (some ((1 : Int32), u)) else (if inb (((74 : Int32) * x1) + x2) 148 = true then if inb x2 74 = true then go (put u 1 (x2).toNatClampNeg (u 2 ((((74 : Int32) * x1) + x2)).toNatClampNeg)) x1 (x2 + (1 : Int32)) else none else none)
def e_X6_restore_L26 : Nat → Mem → Int32 → Int32 → Option (Int32 × Mem)
  | 0 => fun _ _ _ => none
  | f + 1 => e_X6_restore_L26_b (e_X6_restore_L26 f)
def e_X6_restore (u : Mem) (x1 : Int32) : Option (Int32 × Mem) :=
  bnd (e_X6_in u x1 (0 : Int32) (1 : Int32)) (fun r1 u1 => if r1 = 0 then (some ((-2 : Int32), u1)) else (if inb x1 2 = true then if (u1 3 (x1).toNatClampNeg) = 0 then (some ((-3 : Int32), u1)) else (e_X6_restore_L26 FU u1 x1 (0 : Int32)) else none))
def e_X6_balloons_L4_b (go : Mem → Int32 → Int32 → Option (Int32 × Mem)) (u : Mem) (x1 : Int32) (x2 : Int32) : Option (Int32 × Mem) :=
  bnd (e_X6_many u ) (fun r1 u1 => if r1 ≤ x2 then (some (x1, u1)) else (if inb ((27 : Int32) + x2) 74 = true then go u1 (x1 + (u1 1 (((27 : Int32) + x2)).toNatClampNeg)) (x2 + (1 : Int32)) else none))
def e_X6_balloons_L4 : Nat → Mem → Int32 → Int32 → Option (Int32 × Mem)
  | 0 => fun _ _ _ => none
  | f + 1 => e_X6_balloons_L4_b (e_X6_balloons_L4 f)
def e_X6_balloons (u : Mem)  : Option (Int32 × Mem) :=
  e_X6_balloons_L4 FU u (0 : Int32) (0 : Int32)
def e_X6_count_J73 (u : Mem) (s0 : Int32) : Option (Int32 × Mem) :=
  if inb (1 : Int32) 2 = true then if (u 3 ((1 : Int32)).toNatClampNeg) = 0 then (some ((s0 + (0 : Int32)), u)) else (some ((s0 + (2 : Int32)), u)) else none
def e_X6_count (u : Mem) (x1 : Int32) : Option (Int32 × Mem) :=
  if x1 = (0 : Int32) then (bnd (e_X6_many u ) (fun r1 u1 => some (r1, u1))) else (if x1 = (1 : Int32) then (if inb (73 : Int32) 74 = true then some ((u 1 ((73 : Int32)).toNatClampNeg), u) else none) else (if x1 = (2 : Int32) then (some ((u 0 4), u)) else (if x1 = (3 : Int32) then (bnd (e_X6_balloons u ) (fun r2 u2 => some (r2, u2))) else (if x1 = (4 : Int32) then (if inb (0 : Int32) 2 = true then if (u 3 ((0 : Int32)).toNatClampNeg) = 0 then (e_X6_count_J73 u (0 : Int32)) else (e_X6_count_J73 u (1 : Int32)) else none) else (some ((-2 : Int32), u))))))
