def f_X11_isWithin (x0 : Int32) (x1 : Int32) (x2 : Int32) : Option (Int32) :=
  if x0 < x1 then (some 0) else (if x2 < x0 then (some 0) else (some 1))
def f_X11_isSheet (x0 : Int32) : Option (Int32) :=
  (f_X11_isWithin x0 0 3).bind fun r1 => if r1 = 0 ∨ r1 = 1 then some r1 else none
def f_X11_isSort (x0 : Int32) : Option (Int32) :=
  (f_X11_isWithin x0 0 2).bind fun r1 => if r1 = 0 ∨ r1 = 1 then some r1 else none
def f_X6_isNothing (k : Nat) (M : Mem) : Option (Int32) :=
  if (M (9 + k) 1) = (-1) then (some 1) else (some 0)
def f_X6_faultAs (k : Nat) (M : Mem) (x1 : Int32) : Option (Int32) :=
  (f_X6_isNothing k M).bind fun r1 => if r1 = 0 then (if (M (9 + k) 1) = x1 then (some 0) else (some 2)) else (some 1)
def f_X11_failed (M : Mem) (x1 : Int32) : Option (Int32 × Mem) :=
  nm (up M 0 8 x1) fun M1 => some (((-10) - x1), M1)
def f_X6_hasCells (k : Nat) (M : Mem) (x1 : Int32) (x2 : Int32) : Option (Int32) :=
  if x1 < 0 then (some 0) else (if (M (9 + k) 2) < x1 then (some 0) else (if ((M (9 + k) 2) - x1) < x2 then (some 0) else (some 1)))
def f_X3_fitsHead (x0 : Int32) (x1 : Int32) : Option (Int32) :=
  if x0 = 0 then (if x1 = 113 then (some 1) else (some 0)) else (if x0 = 1 then ((f_X11_isWithin x1 50 53).bind fun r5 => if r5 = 0 ∨ r5 = 1 then some r5 else none) else ((f_X11_isWithin x1 50 54).bind fun r3 => if r3 = 0 ∨ r3 = 1 then some r3 else none))
def f_X3_rowLength (x0 : Int32) : Option (Int32) :=
  some (1 + (2 * x0))
def f_X3_kindBy (x0 : Int32) : Option (Int32) :=
  if x0 = 99 then (some 1) else (if x0 = 102 then (some 2) else (if x0 = 115 then (some 0) else (some (-9))))
def f_X3_fitsRow (x0 : Int32) (x1 : Int32) (x2 : Int32) : Option (Int32) :=
  (f_X3_rowLength x2).bind fun r1 => if ¬ r1 = 0 then nm (rem32 (x0 - 3) r1) fun z3 => if z3 = 0 then (if x1 = 59 then (some 1) else (some 0)) else (if (rem32 z3 2) = 1 then ((f_X3_kindBy x1).bind fun r8 => if r8 = (-9) then (some 0) else (some 1)) else ((f_X11_isWithin x1 48 57).bind fun r6 => if r6 = 0 ∨ r6 = 1 then some r6 else none)) else none
def f_X3_firstFault_l11 (N : Nat) (k : Nat) (M : Mem) (x1 : Int32) (x2 : Int32) : Nat → Int32 → Int32 → Int32 → Int32 → Option (Int32)
  | 0, _, _, _, _ => none
  | n + 1, x3, x4, x5, x6 => if x2 ≤ x6 then (if x5 ≤ x2 then (some (-9)) else (some x2)) else (if inb (x1 + x6) 80 then nm (M (13 + k) (x1 + x6).toNatClampNeg) fun z4 => if 3 ≤ x6 then (if x5 ≤ x6 then (some x6) else ((f_X3_fitsRow x6 z4 x4).bind fun r7 => if r7 = 0 then (some x6) else (if x6 = 1 then (nm (z4 - 48) fun z14 => f_X3_firstFault_l11 N k M x1 x2 n z14 x4 x5 (x6 + 1)) else (if x6 = 2 then (nm (z4 - 48) fun z11 => (f_X3_rowLength z11).bind fun r12 => nm (3 + (x3 * r12)) fun z13 => f_X3_firstFault_l11 N k M x1 x2 n x3 z11 z13 (x6 + 1)) else (f_X3_firstFault_l11 N k M x1 x2 n x3 x4 x5 (x6 + 1)))))) else ((f_X3_fitsHead x6 z4).bind fun r15 => if r15 = 0 then (some x6) else (if x6 = 1 then (nm (z4 - 48) fun z22 => f_X3_firstFault_l11 N k M x1 x2 n z22 x4 x5 (x6 + 1)) else (if x6 = 2 then (nm (z4 - 48) fun z19 => (f_X3_rowLength z19).bind fun r20 => nm (3 + (x3 * r20)) fun z21 => f_X3_firstFault_l11 N k M x1 x2 n x3 z19 z21 (x6 + 1)) else (f_X3_firstFault_l11 N k M x1 x2 n x3 x4 x5 (x6 + 1))))) else none)
def f_X3_firstFault (N : Nat) (k : Nat) (M : Mem) (x1 : Int32) (x2 : Int32) : Option (Int32) :=
  f_X3_firstFault_l11 N k M x1 x2 N 0 0 3 0
def f_X3_lay_l145 (N : Nat) (k : Nat) : Nat → Mem → Int32 → Option (Mem)
  | 0, _, _ => none
  | n + 1, M, x5 => if 12 ≤ x5 then (some M) else (if inb x5 12 then nm (up M 26 x5.toNatClampNeg 0) fun M9 => nm (up M9 27 x5.toNatClampNeg 0) fun M10 => f_X3_lay_l145 N k n M10 (x5 + 1) else none)
def f_X3_lay_l55 (kc : Mem → Int32 → Int32 → Option (Mem)) (N : Nat) (k : Nat) (x5 : Int32) : Nat → Mem → Int32 → Int32 → Int32 → Option (Mem)
  | 0, _, _, _, _ => none
  | n + 1, M, x3, x4, x6 => if (M 2 9) ≤ x6 then (kc M x3 x4) else (if inb x3 80 then (f_X3_kindBy (M (13 + k) x3.toNatClampNeg)).bind fun r13 => if inb x4 30 then nm (up M 21 x4.toNatClampNeg r13) fun M15 => if inb (x3 + 1) 80 then nm (up M15 22 x4.toNatClampNeg ((M15 (13 + k) (x3 + 1).toNatClampNeg) - 48)) fun M17 => nm (up M17 23 x4.toNatClampNeg 0) fun M18 => nm (up M18 24 x4.toNatClampNeg x5) fun M19 => nm (up M19 25 x4.toNatClampNeg x6) fun M20 => f_X3_lay_l55 kc N k x5 n M20 (x3 + 2) (x4 + 1) (x6 + 1) else none else none else none)
def f_X3_lay_l40 (N : Nat) (k : Nat) : Nat → Mem → Int32 → Int32 → Int32 → Option (Mem)
  | 0, _, _, _, _ => none
  | n + 1, M, x3, x4, x5 => if (M 2 8) ≤ x5 then (f_X3_lay_l145 N k N M 0) else (f_X3_lay_l55 (fun M21 y3_21 y4_21 => f_X3_lay_l40 N k n M21 y3_21 y4_21 (x5 + 1)) N k x5 N M (x3 + 1) x4 0)
def f_X3_lay (N : Nat) (k : Nat) (M : Mem) (x2 : Int32) : Option (Mem) :=
  if inb (x2 + 1) 80 then nm (up M 2 8 ((M (13 + k) (x2 + 1).toNatClampNeg) - 48)) fun M2 => if inb (x2 + 2) 80 then nm (up M2 2 9 ((M2 (13 + k) (x2 + 2).toNatClampNeg) - 48)) fun M4 => nm (x2 + 3) fun z5 => f_X3_lay_l40 N k N M4 z5 0 0 else none else none
def f_X5_forgetAll (M : Mem) : Option (Mem) :=
  nm (up M 7 4 0) fun M1 => some M1
def f_X3_stones (M : Mem) : Option (Int32) :=
  some ((M 2 8) * (M 2 9))
def f_X11_square (N : Nat) (M : Mem) (x1 : Int32) (x2 : Int32) (x3 : Int32) (x4 : Int32) : Option (Int32 × Mem) :=
  nm (up M 0 8 0) fun M1 => (f_X11_isSheet x1).bind fun r2 => if r2 = 0 then (some ((-1), M1)) else ((f_X11_isSort x2).bind fun r4 => if r4 = 0 then (some ((-2), M1)) else (if inb x1 4 then (f_X6_faultAs (x1.toNatClampNeg) M1 x2).bind fun r7 => if r7 = 0 then (if 0 ≤ x4 then ((f_X6_hasCells (x1.toNatClampNeg) M1 x3 x4).bind fun r10 => if r10 = 0 then ((f_X11_failed M1 3).bind fun q17 => some (q17.1, q17.2)) else ((f_X3_firstFault N (x1.toNatClampNeg) M1 x3 x4).bind fun r12 => if r12 = (-9) then ((f_X3_lay N (x1.toNatClampNeg) M1 x3).bind fun M14 => (f_X5_forgetAll M14).bind fun M15 => (f_X3_stones M15).bind fun r16 => some (r16, M15)) else (some (((-100) - r12), M1)))) else ((f_X11_failed M1 4).bind fun q18 => some (q18.1, q18.2))) else ((f_X11_failed M1 r7).bind fun q19 => some (q19.1, q19.2)) else none))
def f_X3_has (M : Mem) (x1 : Int32) : Option (Int32) :=
  if x1 < 0 then (some 0) else (if ((M 2 8) * (M 2 9)) ≤ x1 then (some 0) else (some 1))
def f_X11_ofStone (M : Mem) (x1 : Int32) (x2 : Int32) : Option (Int32) :=
  (f_X3_has M x1).bind fun r1 => if r1 = 0 then (some (-1)) else (if x2 = 0 then (if inb x1 30 then some (M 21 x1.toNatClampNeg) else none) else (if x2 = 1 then (if inb x1 30 then some (M 22 x1.toNatClampNeg) else none) else (if x2 = 2 then (if inb x1 30 then some (M 23 x1.toNatClampNeg) else none) else (some (-2)))))
def f_X11_isMonth (x0 : Int32) : Option (Int32) :=
  (f_X11_isWithin x0 0 11).bind fun r1 => if r1 = 0 ∨ r1 = 1 then some r1 else none
def f_X3_isBare (M : Mem) : Option (Int32) :=
  if (M 2 9) = 0 then (some 1) else (some 0)
def f_X11_month (M : Mem) (x1 : Int32) (x2 : Int32) (x3 : Int32) : Option (Int32 × Mem) :=
  (f_X11_isMonth x1).bind fun r1 => if r1 = 0 then (some ((-1), M)) else ((f_X11_isWithin x2 0 9).bind fun r3 => if r3 = 0 then (some ((-2), M)) else ((f_X11_isWithin x3 0 9).bind fun r5 => if r5 = 0 then (some ((-2), M)) else ((f_X3_isBare M).bind fun r7 => if r7 = 0 then (if inb x1 12 then nm ((10 * (M 26 x1.toNatClampNeg)) + (M 27 x1.toNatClampNeg)) fun z10 => nm (up M 26 x1.toNatClampNeg x2) fun M11 => nm (up M11 27 x1.toNatClampNeg x3) fun M12 => some (z10, M12) else none) else (some ((-3), M)))))
def f_X11_lift (M : Mem) (x1 : Int32) (x2 : Int32) : Option (Int32 × Mem) :=
  (f_X3_has M x1).bind fun r1 => if r1 = 0 then (some ((-1), M)) else ((f_X11_isWithin x2 0 99).bind fun r3 => if r3 = 0 then (some ((-2), M)) else (if inb x1 30 then nm (M 23 x1.toNatClampNeg) fun z6 => nm (up M 23 x1.toNatClampNeg x2) fun M7 => some (z6, M7) else none))
def f_X7_swell (M : Mem) (x1 : Int32) (x2 : Int32) : Option (Int32) :=
  some 0
def f_X0_swell (M : Mem) (x1 : Int32) (x2 : Int32) : Option (Int32) :=
  some (3 * x1)
def f_X1_swell (M : Mem) (x1 : Int32) (x2 : Int32) : Option (Int32) :=
  (f_X0_swell M x1 x2).bind fun r1 => some (r1 + (2 * x2))
def f_X3_heightAs (M : Mem) (x1 : Int32) (x2 : Int32) (x3 : Int32) : Option (Int32) :=
  if inb x2 30 then if inb x1 3 then if inb x3 12 then if x1.toNatClampNeg = 0 then ((f_X7_swell M (M 26 x3.toNatClampNeg) (M 27 x3.toNatClampNeg)).bind fun r5 => some (((10 * (M 22 x2.toNatClampNeg)) + (M 23 x2.toNatClampNeg)) + r5)) else (if x1.toNatClampNeg = 1 then ((f_X0_swell M (M 26 x3.toNatClampNeg) (M 27 x3.toNatClampNeg)).bind fun r7 => some (((10 * (M 22 x2.toNatClampNeg)) + (M 23 x2.toNatClampNeg)) + r7)) else (if x1.toNatClampNeg = 2 then ((f_X1_swell M (M 26 x3.toNatClampNeg) (M 27 x3.toNatClampNeg)).bind fun r9 => some (((10 * (M 22 x2.toNatClampNeg)) + (M 23 x2.toNatClampNeg)) + r9)) else (none))) else none else none else none
def f_X3_heightOf (M : Mem) (x1 : Int32) (x2 : Int32) : Option (Int32) :=
  if inb x1 30 then (f_X3_heightAs M (M 21 x1.toNatClampNeg) x1 x2).bind fun r2 => some r2 else none
def f_X11_height (M : Mem) (x1 : Int32) (x2 : Int32) : Option (Int32) :=
  (f_X3_has M x1).bind fun r1 => if r1 = 0 then (some (-1)) else ((f_X11_isMonth x2).bind fun r3 => if r3 = 0 then (some (-1)) else ((f_X3_heightOf M x1 x2).bind fun r5 => some r5))
def f_X3_highestMonth_l4 (N : Nat) (M : Mem) (x1 : Int32) : Nat → Int32 → Int32 → Option (Int32)
  | 0, _, _ => none
  | n + 1, x2, x3 => if 12 ≤ x3 then (some x2) else ((f_X3_heightOf M x1 x3).bind fun r2 => (f_X3_heightOf M x1 x2).bind fun r3 => if r2 ≤ r3 then (f_X3_highestMonth_l4 N M x1 n x2 (x3 + 1)) else (f_X3_highestMonth_l4 N M x1 n x3 (x3 + 1)))
def f_X3_highestMonth (N : Nat) (M : Mem) (x1 : Int32) : Option (Int32) :=
  f_X3_highestMonth_l4 N M x1 N 0 1
def f_X3_lowestMonth_l4 (N : Nat) (M : Mem) (x1 : Int32) : Nat → Int32 → Int32 → Option (Int32)
  | 0, _, _ => none
  | n + 1, x2, x3 => if 12 ≤ x3 then (some x2) else ((f_X3_heightOf M x1 x3).bind fun r2 => (f_X3_heightOf M x1 x2).bind fun r3 => if r3 ≤ r2 then (f_X3_lowestMonth_l4 N M x1 n x2 (x3 + 1)) else (f_X3_lowestMonth_l4 N M x1 n x3 (x3 + 1)))
def f_X3_lowestMonth (N : Nat) (M : Mem) (x1 : Int32) : Option (Int32) :=
  f_X3_lowestMonth_l4 N M x1 N 0 1
def f_X11_rises (N : Nat) (M : Mem) (x1 : Int32) (x2 : Int32) : Option (Int32) :=
  (f_X3_has M x1).bind fun r1 => if r1 = 0 then (some (-1)) else ((f_X11_isWithin x2 0 1).bind fun r3 => if r3 = 0 then (some (-2)) else (if x2 = 0 then ((f_X3_highestMonth N M x1).bind fun r7 => some r7) else ((f_X3_lowestMonth N M x1).bind fun r6 => some r6)))
def f_X11_isApart (x0 : Int32) : Option (Int32) :=
  (f_X11_isWithin x0 0 999).bind fun r1 => if r1 = 0 ∨ r1 = 1 then some r1 else none
def f_X3_writeHeights_l2 (N : Nat) (q : Nat) (x1 : Int32) : Nat → Mem → Int32 → Option (Mem)
  | 0, _, _ => none
  | n + 1, M, x3 => (f_X3_stones M).bind fun r1 => if r1 ≤ x3 then (some M) else ((f_X3_heightOf M x3 x1).bind fun r3 => if inb x3 30 then nm (up M q x3.toNatClampNeg r3) fun M5 => f_X3_writeHeights_l2 N q x1 n M5 (x3 + 1) else none)
def f_X3_writeHeights (N : Nat) (q : Nat) (M : Mem) (x1 : Int32) : Option (Mem) :=
  f_X3_writeHeights_l2 N q x1 N M 0
def f_X3_neighbour (M : Mem) (x1 : Int32) (x2 : Int32) : Option (Int32) :=
  if x2 = 0 then (if inb x1 30 then if (M 24 x1.toNatClampNeg) ≤ 0 then (some (-9)) else (some (x1 - (M 2 9))) else none) else (if x2 = 1 then (if inb x1 30 then if (M 25 x1.toNatClampNeg) ≤ 0 then (some (-9)) else (some (x1 - 1)) else none) else (if x2 = 2 then (if inb x1 30 then if ((M 2 9) - 1) ≤ (M 25 x1.toNatClampNeg) then (some (-9)) else (some (x1 + 1)) else none) else (if inb x1 30 then if ((M 2 8) - 1) ≤ (M 24 x1.toNatClampNeg) then (some (-9)) else (some (x1 + (M 2 9))) else none)))
def f_X10_apartTo (M : Mem) (x1 : Int32) (x2 : Int32) : Option (Int32) :=
  if x2 = (-9) then (some 0) else (if inb x1 30 then if inb x2 30 then some (ab ((M 28 x1.toNatClampNeg) - (M 28 x2.toNatClampNeg))) else none else none)
def f_X10_measure_l55 (kc : Mem → Option (Mem)) (N : Nat) : Nat → Mem → Int32 → Option (Mem)
  | 0, _, _ => none
  | n + 1, M, x4 => (f_X3_stones M).bind fun r5 => if r5 ≤ x4 then (kc M) else (if inb x4 30 then (f_X3_neighbour M x4 2).bind fun r8 => (f_X10_apartTo M x4 r8).bind fun r9 => nm (up M 29 x4.toNatClampNeg (mx (M 29 x4.toNatClampNeg) r9)) fun M10 => (f_X3_neighbour M10 x4 3).bind fun r11 => (f_X10_apartTo M10 x4 r11).bind fun r12 => nm (up M10 30 x4.toNatClampNeg (mx (M10 30 x4.toNatClampNeg) r12)) fun M13 => f_X10_measure_l55 kc N n M13 (x4 + 1) else none)
def f_X10_measure_l35 (N : Nat) (x2 : Int32) : Nat → Mem → Int32 → Option (Mem)
  | 0, _, _ => none
  | n + 1, M, x3 => if x2 < x3 then (some M) else ((f_X3_writeHeights N 28 M x3).bind fun M4 => f_X10_measure_l55 (fun M14 => f_X10_measure_l35 N x2 n M14 (x3 + 1)) N N M4 0)
def f_X10_measure_l2 (N : Nat) (x1 : Int32) (x2 : Int32) : Nat → Mem → Int32 → Option (Mem)
  | 0, _, _ => none
  | n + 1, M, x3 => (f_X3_stones M).bind fun r1 => if r1 ≤ x3 then (f_X10_measure_l35 N x2 N M x1) else (if inb x3 30 then nm (up M 29 x3.toNatClampNeg 0) fun M16 => nm (up M16 30 x3.toNatClampNeg 0) fun M17 => f_X10_measure_l2 N x1 x2 n M17 (x3 + 1) else none)
def f_X10_measure (N : Nat) (M : Mem) (x1 : Int32) (x2 : Int32) : Option (Mem) :=
  f_X10_measure_l2 N x1 x2 N M 0
def f_X10_stepAt (M : Mem) (x1 : Int32) (x2 : Int32) (x3 : Int32) : Option (Int32) :=
  if x2 = 0 then (if inb x3 30 then some (M 30 x3.toNatClampNeg) else none) else (if x2 = 1 then (if inb x3 30 then some (M 29 x3.toNatClampNeg) else none) else (if x2 = 2 then (if inb x1 30 then some (M 29 x1.toNatClampNeg) else none) else (if inb x1 30 then some (M 30 x1.toNatClampNeg) else none)))
def f_X10_countStepsTo_l71 (kc : Mem → Int32 → Option (Mem)) (N : Nat) (x2 : Int32) (x5 : Int32) : Nat → Mem → Int32 → Int32 → Option (Mem)
  | 0, _, _, _ => none
  | n + 1, M, x3, x6 => if 4 ≤ x6 then (kc M x3) else ((f_X3_neighbour M x5 x6).bind fun r12 => if r12 = (-9) then (f_X10_countStepsTo_l71 kc N x2 x5 n M x3 (x6 + 1)) else (if inb r12 30 then if (M 31 r12.toNatClampNeg) = (-9) then ((f_X10_stepAt M x5 x6 r12).bind fun r16 => if x2 < r16 then (f_X10_countStepsTo_l71 kc N x2 x5 n M x3 (x6 + 1)) else (if inb x5 30 then nm (up M 31 r12.toNatClampNeg ((M 31 x5.toNatClampNeg) + 1)) fun M19 => if inb x3 30 then nm (up M19 32 x3.toNatClampNeg r12) fun M21 => f_X10_countStepsTo_l71 kc N x2 x5 n M21 (x3 + 1) (x6 + 1) else none else none)) else (f_X10_countStepsTo_l71 kc N x2 x5 n M x3 (x6 + 1)) else none))
def f_X10_countStepsTo_l46 (N : Nat) (x2 : Int32) : Nat → Mem → Int32 → Int32 → Option (Mem)
  | 0, _, _, _ => none
  | n + 1, M, x3, x4 => if x3 ≤ x4 then (some M) else (if 30 ≤ x4 then (some M) else (if inb x4 30 then nm (M 32 x4.toNatClampNeg) fun z10 => f_X10_countStepsTo_l71 (fun M22 y3_22 => f_X10_countStepsTo_l46 N x2 n M22 y3_22 (x4 + 1)) N x2 z10 N M x3 0 else none))
def f_X10_countStepsTo_l2 (N : Nat) (x1 : Int32) (x2 : Int32) : Nat → Mem → Int32 → Option (Mem)
  | 0, _, _ => none
  | n + 1, M, x3 => (f_X3_stones M).bind fun r1 => if r1 ≤ x3 then (if inb x1 30 then nm (up M 31 x1.toNatClampNeg 0) fun M4 => if inb 0 30 then nm (up M4 32 (0 : Int32).toNatClampNeg x1) fun M6 => f_X10_countStepsTo_l46 N x2 N M6 1 0 else none else none) else (if inb x3 30 then nm (up M 31 x3.toNatClampNeg (-9)) fun M24 => f_X10_countStepsTo_l2 N x1 x2 n M24 (x3 + 1) else none)
def f_X10_countStepsTo (N : Nat) (M : Mem) (x1 : Int32) (x2 : Int32) : Option (Mem) :=
  f_X10_countStepsTo_l2 N x1 x2 N M 0
def f_X10_nextOnWay_l2 (N : Nat) (M : Mem) (x1 : Int32) (x2 : Int32) : Nat → Int32 → Option (Int32)
  | 0, _ => none
  | n + 1, x3 => if 4 ≤ x3 then (some x1) else ((f_X3_neighbour M x1 x3).bind fun r2 => if r2 = (-9) then (f_X10_nextOnWay_l2 N M x1 x2 n (x3 + 1)) else (if inb r2 30 then if inb x1 30 then if (M 31 r2.toNatClampNeg) = ((M 31 x1.toNatClampNeg) - 1) then ((f_X10_stepAt M x1 x3 r2).bind fun r7 => if x2 < r7 then (f_X10_nextOnWay_l2 N M x1 x2 n (x3 + 1)) else (some r2)) else (f_X10_nextOnWay_l2 N M x1 x2 n (x3 + 1)) else none else none))
def f_X10_nextOnWay (N : Nat) (M : Mem) (x1 : Int32) (x2 : Int32) : Option (Int32) :=
  f_X10_nextOnWay_l2 N M x1 x2 N 0
def f_X10_stoneBehind_l19 (N : Nat) (M : Mem) (x2 : Int32) (x3 : Int32) : Nat → Int32 → Int32 → Option (Int32)
  | 0, _, _ => none
  | n + 1, x4, x5 => if x3 ≤ x5 then (some x4) else ((f_X10_nextOnWay N M x4 x2).bind fun r4 => f_X10_stoneBehind_l19 N M x2 x3 n r4 (x5 + 1))
def f_X10_stoneBehind (N : Nat) (M : Mem) (x1 : Int32) (x2 : Int32) (x3 : Int32) : Option (Int32) :=
  if inb x1 30 then if x3 ≤ (M 31 x1.toNatClampNeg) then (f_X10_stoneBehind_l19 N M x2 x3 N x1 0) else (some (-9)) else none
def f_X11_way (N : Nat) (M : Mem) (x1 : Int32) (x2 : Int32) (x3 : Int32) (x4 : Int32) (x5 : Int32) : Option (Int32 × Mem) :=
  (f_X3_has M x1).bind fun r1 => if r1 = 0 then (some ((-1), M)) else ((f_X3_has M x2).bind fun r3 => if r3 = 0 then (some ((-1), M)) else ((f_X11_isMonth x3).bind fun r5 => if r5 = 0 then (some ((-1), M)) else (if (-1) ≤ x5 then ((f_X11_isApart x4).bind fun r8 => if r8 = 0 then (some ((-2), M)) else ((f_X10_measure N M x3 x3).bind fun M10 => (f_X10_countStepsTo N M10 x2 x4).bind fun M11 => if x5 = (-1) then (if inb x1 30 then some ((M11 31 x1.toNatClampNeg), M11) else none) else ((f_X10_stoneBehind N M11 x1 x4 x5).bind fun r13 => some (r13, M11)))) else (some ((-1), M)))))
def f_X11_holds (N : Nat) (M : Mem) (x1 : Int32) (x2 : Int32) (x3 : Int32) (x4 : Int32) (x5 : Int32) : Option (Int32 × Mem) :=
  (f_X3_has M x1).bind fun r1 => if r1 = 0 then (some ((-1), M)) else ((f_X3_has M x2).bind fun r3 => if r3 = 0 then (some ((-1), M)) else ((f_X11_isMonth x3).bind fun r5 => if r5 = 0 then (some ((-1), M)) else ((f_X11_isMonth x4).bind fun r7 => if r7 = 0 then (some ((-1), M)) else (if x3 ≤ x4 then ((f_X11_isApart x5).bind fun r10 => if r10 = 0 then (some ((-2), M)) else ((f_X10_measure N M x3 x4).bind fun M12 => (f_X10_countStepsTo N M12 x2 x5).bind fun M13 => if inb x1 30 then some ((M13 31 x1.toNatClampNeg), M13) else none)) else (some ((-1), M))))))
def f_X10_leastByNeighbours_l9 (N : Nat) (M : Mem) (x1 : Int32) : Nat → Int32 → Int32 → Option (Int32)
  | 0, _, _ => none
  | n + 1, x2, x3 => if 4 ≤ x3 then (some x2) else ((f_X3_neighbour M x1 x3).bind fun r4 => if r4 = (-9) then (f_X10_leastByNeighbours_l9 N M x1 n x2 (x3 + 1)) else (if inb r4 30 then (f_X10_stepAt M x1 x3 r4).bind fun r7 => nm (mn x2 (mx (M 31 r4.toNatClampNeg) r7)) fun z8 => f_X10_leastByNeighbours_l9 N M x1 n z8 (x3 + 1) else none))
def f_X10_leastByNeighbours (N : Nat) (M : Mem) (x1 : Int32) : Option (Int32) :=
  if inb x1 30 then nm (M 31 x1.toNatClampNeg) fun z2 => f_X10_leastByNeighbours_l9 N M x1 N z2 0 else none
def f_X10_leastBetween_l55 (kc : Mem → Int32 → Option (Int32 × Mem)) (N : Nat) : Nat → Mem → Int32 → Int32 → Option (Int32 × Mem)
  | 0, _, _, _ => none
  | n + 1, M, x3, x5 => (f_X3_stones M).bind fun r9 => if r9 ≤ x5 then (kc M x3) else ((f_X10_leastByNeighbours N M x5).bind fun r11 => if x3 = 0 then (if inb x5 30 then if (M 31 x5.toNatClampNeg) ≤ r11 then (nm (up M 31 x5.toNatClampNeg r11) fun M17 => f_X10_leastBetween_l55 kc N n M17 0 (x5 + 1)) else (nm (up M 31 x5.toNatClampNeg r11) fun M18 => f_X10_leastBetween_l55 kc N n M18 1 (x5 + 1)) else none) else (if inb x5 30 then nm (up M 31 x5.toNatClampNeg r11) fun M14 => f_X10_leastBetween_l55 kc N n M14 1 (x5 + 1) else none))
def f_X10_leastBetween_l39 (N : Nat) (x2 : Int32) : Nat → Mem → Int32 → Int32 → Option (Int32 × Mem)
  | 0, _, _, _ => none
  | n + 1, M, x3, x4 => if x3 = 0 then (if inb x2 30 then some ((M 31 x2.toNatClampNeg), M) else none) else (if 30 ≤ x4 then (if inb x2 30 then some ((M 31 x2.toNatClampNeg), M) else none) else (f_X10_leastBetween_l55 (fun M19 y3_19 => f_X10_leastBetween_l39 N x2 n M19 y3_19 (x4 + 1)) N N M 0 0))
def f_X10_leastBetween_l2 (N : Nat) (x1 : Int32) (x2 : Int32) : Nat → Mem → Int32 → Option (Int32 × Mem)
  | 0, _, _ => none
  | n + 1, M, x3 => (f_X3_stones M).bind fun r1 => if r1 ≤ x3 then (if inb x1 30 then nm (up M 31 x1.toNatClampNeg 0) fun M4 => f_X10_leastBetween_l39 N x2 N M4 1 0 else none) else (if inb x3 30 then nm (up M 31 x3.toNatClampNeg 1000000) fun M21 => f_X10_leastBetween_l2 N x1 x2 n M21 (x3 + 1) else none)
def f_X10_leastBetween (N : Nat) (M : Mem) (x1 : Int32) (x2 : Int32) : Option (Int32 × Mem) :=
  f_X10_leastBetween_l2 N x1 x2 N M 0
def f_X11_leastStep (N : Nat) (M : Mem) (x1 : Int32) (x2 : Int32) (x3 : Int32) : Option (Int32 × Mem) :=
  (f_X3_has M x1).bind fun r1 => if r1 = 0 then (some ((-1), M)) else ((f_X3_has M x2).bind fun r3 => if r3 = 0 then (some ((-1), M)) else ((f_X11_isMonth x3).bind fun r5 => if r5 = 0 then (some ((-1), M)) else ((f_X10_measure N M x3 x3).bind fun M7 => (f_X10_leastBetween N M7 x1 x2).bind fun q8 => some (q8.1, q8.2))))
def f_X3_hasStall (M : Mem) (x1 : Int32) : Option (Int32) :=
  (f_X3_has M x1).bind fun r1 => if r1 = 0 then (some 0) else (if inb x1 30 then if ((M 2 8) - 1) ≤ (M 24 x1.toNatClampNeg) then (some 0) else (if ((M 2 9) - 1) ≤ (M 25 x1.toNatClampNeg) then (some 0) else (some 1)) else none)
def f_X4_measure (N : Nat) (M : Mem) (x1 : Int32) : Option (Mem) :=
  (f_X3_writeHeights N 33 M x1).bind fun M1 => some M1
def f_X4_wedgesAt (M : Mem) (x1 : Int32) : Option (Int32) :=
  nm (x1 + (M 2 9)) fun z1 => if inb x1 30 then if inb (x1 + 1) 30 then nm (mx (M 33 x1.toNatClampNeg) (M 33 (x1 + 1).toNatClampNeg)) fun z4 => if inb z1 30 then if inb (z1 + 1) 30 then nm (mx (M 33 z1.toNatClampNeg) (M 33 (z1 + 1).toNatClampNeg)) fun z7 => nm ((((M 33 x1.toNatClampNeg) + (M 33 (x1 + 1).toNatClampNeg)) + (M 33 z1.toNatClampNeg)) + (M 33 (z1 + 1).toNatClampNeg)) fun z8 => some ((4 * (mx z4 z7)) - z8) else none else none else none else none
def f_X11_wedges (N : Nat) (M : Mem) (x1 : Int32) (x2 : Int32) : Option (Int32 × Mem) :=
  (f_X3_hasStall M x1).bind fun r1 => if r1 = 0 then (some ((-1), M)) else ((f_X11_isMonth x2).bind fun r3 => if r3 = 0 then (some ((-1), M)) else ((f_X4_measure N M x2).bind fun M5 => (f_X4_wedgesAt M5 x1).bind fun r6 => some (r6, M5)))
def f_X11_refusalOf (M : Mem) (x1 : Int32) (x2 : Int32) : Option (Int32) :=
  (f_X11_isMonth x1).bind fun r1 => if r1 = 0 then (some (-1)) else (if x2 = 0 then (some (-2)) else ((f_X3_isBare M).bind fun r4 => if r4 = 0 then (some 0) else (some (-3))))
def f_X4_bestPlace_l4 (N : Nat) (M : Mem) : Nat → Int32 → Int32 → Option (Int32)
  | 0, _, _ => none
  | n + 1, x1, x2 => (f_X3_stones M).bind fun r1 => if r1 ≤ x2 then (some x1) else ((f_X3_hasStall M x2).bind fun r3 => if r3 = 0 then (f_X4_bestPlace_l4 N M n x1 (x2 + 1)) else ((f_X4_wedgesAt M x2).bind fun r5 => (f_X4_wedgesAt M x1).bind fun r6 => if r6 ≤ r5 then (f_X4_bestPlace_l4 N M n x1 (x2 + 1)) else (f_X4_bestPlace_l4 N M n x2 (x2 + 1))))
def f_X4_bestPlace (N : Nat) (M : Mem) : Option (Int32) :=
  f_X4_bestPlace_l4 N M N 0 1
def f_X11_best (N : Nat) (M : Mem) (x1 : Int32) (x2 : Int32) : Option (Int32 × Mem) :=
  (f_X11_isWithin x2 0 1).bind fun r1 => (f_X11_refusalOf M x1 r1).bind fun r2 => if r2 = 0 then ((f_X4_measure N M x1).bind fun M4 => (f_X4_bestPlace N M4).bind fun r5 => if x2 = 0 then (some (r5, M4)) else ((f_X4_wedgesAt M4 r5).bind fun r7 => some (r7, M4))) else (some (r2, M))
def f_X4_areClear (M : Mem) (x1 : Int32) (x2 : Int32) : Option (Int32) :=
  if inb x1 30 then if inb x2 30 then if 1 < (ab ((M 24 x1.toNatClampNeg) - (M 24 x2.toNatClampNeg))) then (some 1) else (if (ab ((M 25 x1.toNatClampNeg) - (M 25 x2.toNatClampNeg))) ≤ 1 then (some 0) else (some 1)) else none else none
def f_X4_takePair (M : Mem) (x1 : Int32) (x2 : Int32) (x3 : Int32) : Option (Mem) :=
  if (M 4 5) = (-9) then (nm (up M 4 3 x1) fun M2 => nm (up M2 4 4 x2) fun M3 => nm (up M3 4 5 x3) fun M4 => some M4) else (if (M 4 5) ≤ x3 then (some M) else (nm (up M 4 3 x1) fun M6 => nm (up M6 4 4 x2) fun M7 => nm (up M7 4 5 x3) fun M8 => some M8))
def f_X4_findPair_l81 (kc : Mem → Option (Mem)) (N : Nat) (x1 : Int32) : Nat → Mem → Int32 → Option (Mem)
  | 0, _, _ => none
  | n + 1, M, x2 => (f_X3_stones M).bind fun r9 => if r9 ≤ x2 then (kc M) else (if inb x1 30 then if (M 34 x1.toNatClampNeg) = (-9) then (f_X4_findPair_l81 kc N x1 n M (x2 + 1)) else (if inb x2 30 then if (M 34 x2.toNatClampNeg) = (-9) then (f_X4_findPair_l81 kc N x1 n M (x2 + 1)) else ((f_X4_areClear M x1 x2).bind fun r15 => if r15 = 0 then (f_X4_findPair_l81 kc N x1 n M (x2 + 1)) else ((f_X4_takePair M x1 x2 ((M 34 x1.toNatClampNeg) + (M 34 x2.toNatClampNeg))).bind fun M17 => f_X4_findPair_l81 kc N x1 n M17 (x2 + 1))) else none) else none)
def f_X4_findPair_l66 (N : Nat) : Nat → Mem → Int32 → Option (Mem)
  | 0, _, _ => none
  | n + 1, M, x1 => (f_X3_stones M).bind fun r6 => if r6 ≤ x1 then (some M) else (nm (x1 + 1) fun z8 => f_X4_findPair_l81 (fun M18 => f_X4_findPair_l66 N n M18 (x1 + 1)) N x1 N M z8)
def f_X4_findPair_l20 (N : Nat) : Nat → Mem → Int32 → Option (Mem)
  | 0, _, _ => none
  | n + 1, M, x1 => (f_X3_stones M).bind fun r4 => if r4 ≤ x1 then (f_X4_findPair_l66 N N M 0) else ((f_X3_hasStall M x1).bind fun r19 => if r19 = 0 then (if inb x1 30 then nm (up M 34 x1.toNatClampNeg (-9)) fun M22 => f_X4_findPair_l20 N n M22 (x1 + 1) else none) else ((f_X4_wedgesAt M x1).bind fun r23 => if inb x1 30 then nm (up M 34 x1.toNatClampNeg r23) fun M25 => f_X4_findPair_l20 N n M25 (x1 + 1) else none))
def f_X4_findPair (N : Nat) (M : Mem) : Option (Mem) :=
  nm (up M 4 3 (-9)) fun M1 => nm (up M1 4 4 (-9)) fun M2 => nm (up M2 4 5 (-9)) fun M3 => f_X4_findPair_l20 N N M3 0
def f_X11_two (N : Nat) (M : Mem) (x1 : Int32) (x2 : Int32) : Option (Int32 × Mem) :=
  (f_X11_isWithin x2 0 2).bind fun r1 => (f_X11_refusalOf M x1 r1).bind fun r2 => if r2 = 0 then ((f_X4_measure N M x1).bind fun M4 => (f_X4_findPair N M4).bind fun M5 => if x2 = 2 then (some ((M5 4 5), M5)) else (if x2 = 0 then (some ((M5 4 3), M5)) else (some ((M5 4 4), M5)))) else (some (r2, M))
def f_X4_sizeOf (M : Mem) (x1 : Int32) (x2 : Int32) : Option (Int32) :=
  if inb x2 30 then if inb x1 30 then nm (((M 25 x2.toNatClampNeg) - (M 25 x1.toNatClampNeg)) + 1) fun z3 => some (z3 * (((M 24 x2.toNatClampNeg) - (M 24 x1.toNatClampNeg)) + 1)) else none else none
def f_X4_spread_l18 (N : Nat) (M : Mem) (x1 : Int32) (x2 : Int32) : Nat → Int32 → Int32 → Int32 → Option (Int32)
  | 0, _, _, _ => none
  | n + 1, x3, x4, x5 => if x2 < x5 then (some (x4 - x3)) else (if inb x5 30 then if inb x1 30 then if (M 25 x5.toNatClampNeg) < (M 25 x1.toNatClampNeg) then (f_X4_spread_l18 N M x1 x2 n x3 x4 (x5 + 1)) else (if inb x2 30 then if (M 25 x2.toNatClampNeg) < (M 25 x5.toNatClampNeg) then (f_X4_spread_l18 N M x1 x2 n x3 x4 (x5 + 1)) else (nm (mn x3 (M 33 x5.toNatClampNeg)) fun z10 => nm (mx x4 (M 33 x5.toNatClampNeg)) fun z11 => f_X4_spread_l18 N M x1 x2 n z10 z11 (x5 + 1)) else none) else none else none)
def f_X4_spread (N : Nat) (M : Mem) (x1 : Int32) (x2 : Int32) : Option (Int32) :=
  if inb x1 30 then nm (M 33 x1.toNatClampNeg) fun z2 => nm (M 33 x1.toNatClampNeg) fun z3 => f_X4_spread_l18 N M x1 x2 N z2 z3 x1 else none
def f_X4_findOval_l30 (kc : Mem → Option (Mem)) (N : Nat) (x1 : Int32) (x2 : Int32) : Nat → Mem → Int32 → Option (Mem)
  | 0, _, _ => none
  | n + 1, M, x3 => (f_X3_stones M).bind fun r6 => if r6 ≤ x3 then (kc M) else ((f_X4_sizeOf M x2 x3).bind fun r8 => if r8 ≤ (M 4 5) then (f_X4_findOval_l30 kc N x1 x2 n M (x3 + 1)) else ((f_X4_spread N M x2 x3).bind fun r10 => if x1 < r10 then (f_X4_findOval_l30 kc N x1 x2 n M (x3 + 1)) else (nm (up M 4 3 x2) fun M12 => nm (up M12 4 4 x3) fun M13 => nm (up M13 4 5 r8) fun M14 => f_X4_findOval_l30 kc N x1 x2 n M14 (x3 + 1))))
def f_X4_findOval_l17 (N : Nat) (x1 : Int32) : Nat → Mem → Int32 → Option (Mem)
  | 0, _, _ => none
  | n + 1, M, x2 => (f_X3_stones M).bind fun r4 => if r4 ≤ x2 then (some M) else (f_X4_findOval_l30 (fun M15 => f_X4_findOval_l17 N x1 n M15 (x2 + 1)) N x1 x2 N M x2)
def f_X4_findOval (N : Nat) (M : Mem) (x1 : Int32) : Option (Mem) :=
  nm (up M 4 3 0) fun M1 => nm (up M1 4 4 0) fun M2 => nm (up M2 4 5 1) fun M3 => f_X4_findOval_l17 N x1 N M3 0
def f_X11_oval (N : Nat) (M : Mem) (x1 : Int32) (x2 : Int32) (x3 : Int32) : Option (Int32 × Mem) :=
  (f_X11_isApart x2).bind fun r1 => if r1 = 0 then ((f_X11_refusalOf M x1 0).bind fun r3 => if r3 = 0 then ((f_X4_measure N M x1).bind fun M5 => (f_X4_findOval N M5 x2).bind fun M6 => if x3 = 0 then (some ((M6 4 5), M6)) else (if x3 = 1 then (some ((M6 4 3), M6)) else (some ((M6 4 4), M6)))) else (some (r3, M))) else ((f_X11_isWithin x3 0 2).bind fun r9 => if r9 = 0 then ((f_X11_refusalOf M x1 0).bind fun r11 => if r11 = 0 then ((f_X4_measure N M x1).bind fun M13 => (f_X4_findOval N M13 x2).bind fun M14 => if x3 = 0 then (some ((M14 4 5), M14)) else (if x3 = 1 then (some ((M14 4 3), M14)) else (some ((M14 4 4), M14)))) else (some (r11, M))) else ((f_X11_refusalOf M x1 1).bind fun r17 => if r17 = 0 then ((f_X4_measure N M x1).bind fun M19 => (f_X4_findOval N M19 x2).bind fun M20 => if x3 = 0 then (some ((M20 4 5), M20)) else (if x3 = 1 then (some ((M20 4 3), M20)) else (some ((M20 4 4), M20)))) else (some (r17, M))))
def f_X9_measure (N : Nat) (M : Mem) (x1 : Int32) : Option (Mem) :=
  (f_X3_writeHeights N 35 M x1).bind fun M1 => some M1
def f_X3_isAtEdge (M : Mem) (x1 : Int32) : Option (Int32) :=
  if inb x1 30 then if (M 24 x1.toNatClampNeg) = 0 then (some 1) else (if (M 24 x1.toNatClampNeg) = ((M 2 8) - 1) then (some 1) else (if (M 25 x1.toNatClampNeg) = 0 then (some 1) else (if (M 25 x1.toNatClampNeg) = ((M 2 9) - 1) then (some 1) else (some 0)))) else none
def f_X9_lowestBeside_l5 (N : Nat) (M : Mem) (x1 : Int32) : Nat → Int32 → Int32 → Option (Int32)
  | 0, _, _ => none
  | n + 1, x2, x3 => if 4 ≤ x3 then (some x2) else ((f_X3_neighbour M x1 x3).bind fun r2 => if r2 = (-9) then (f_X9_lowestBeside_l5 N M x1 n x2 (x3 + 1)) else (if inb r2 30 then nm (mn x2 (M 36 r2.toNatClampNeg)) fun z5 => f_X9_lowestBeside_l5 N M x1 n z5 (x3 + 1) else none))
def f_X9_lowestBeside (N : Nat) (M : Mem) (x1 : Int32) : Option (Int32) :=
  f_X9_lowestBeside_l5 N M x1 N 1000000 0
def f_X9_settle_l65 (kc : Mem → Int32 → Option (Mem)) (N : Nat) : Nat → Mem → Int32 → Int32 → Option (Mem)
  | 0, _, _, _ => none
  | n + 1, M, x1, x3 => (f_X3_stones M).bind fun r5 => if r5 ≤ x3 then (kc M x1) else ((f_X3_isAtEdge M x3).bind fun r7 => if r7 = 0 then (if inb x3 30 then (f_X9_lowestBeside N M x3).bind fun r10 => nm (mx (M 35 x3.toNatClampNeg) r10) fun z11 => if x1 = 0 then (if (M 36 x3.toNatClampNeg) ≤ z11 then (nm (up M 36 x3.toNatClampNeg z11) fun M15 => f_X9_settle_l65 kc N n M15 0 (x3 + 1)) else (nm (up M 36 x3.toNatClampNeg z11) fun M16 => f_X9_settle_l65 kc N n M16 1 (x3 + 1))) else (nm (up M 36 x3.toNatClampNeg z11) fun M13 => f_X9_settle_l65 kc N n M13 1 (x3 + 1)) else none) else (f_X9_settle_l65 kc N n M x1 (x3 + 1)))
def f_X9_settle_l51 (N : Nat) : Nat → Mem → Int32 → Int32 → Option (Mem)
  | 0, _, _, _ => none
  | n + 1, M, x1, x2 => if x1 = 0 then (some M) else (if 30 ≤ x2 then (some M) else (f_X9_settle_l65 (fun M17 y1_17 => f_X9_settle_l51 N n M17 y1_17 (x2 + 1)) N N M 0 0))
def f_X9_settle_l2 (N : Nat) : Nat → Mem → Int32 → Option (Mem)
  | 0, _, _ => none
  | n + 1, M, x1 => (f_X3_stones M).bind fun r1 => if r1 ≤ x1 then (f_X9_settle_l51 N N M 1 0) else ((f_X3_isAtEdge M x1).bind fun r18 => if r18 = 0 then (if inb x1 30 then nm (up M 36 x1.toNatClampNeg 1000000) fun M21 => f_X9_settle_l2 N n M21 (x1 + 1) else none) else (if inb x1 30 then nm (up M 36 x1.toNatClampNeg (M 35 x1.toNatClampNeg)) fun M23 => f_X9_settle_l2 N n M23 (x1 + 1) else none))
def f_X9_settle (N : Nat) (M : Mem) : Option (Mem) :=
  f_X9_settle_l2 N N M 0
def f_X9_depthAt (M : Mem) (x1 : Int32) : Option (Int32) :=
  if inb x1 30 then some ((M 36 x1.toNatClampNeg) - (M 35 x1.toNatClampNeg)) else none
def f_X11_depth (N : Nat) (M : Mem) (x1 : Int32) (x2 : Int32) : Option (Int32 × Mem) :=
  (f_X3_has M x1).bind fun r1 => if r1 = 0 then (some ((-1), M)) else ((f_X11_isMonth x2).bind fun r3 => if r3 = 0 then (some ((-1), M)) else ((f_X9_measure N M x2).bind fun M5 => (f_X9_settle N M5).bind fun M6 => (f_X9_depthAt M6 x1).bind fun r7 => some (r7, M6)))
def f_X9_allDepths_l8 (N : Nat) (M : Mem) : Nat → Int32 → Int32 → Option (Int32 × Mem)
  | 0, _, _ => none
  | n + 1, x1, x2 => (f_X3_stones M).bind fun r2 => if r2 ≤ x2 then (some (x1, M)) else ((f_X9_depthAt M x2).bind fun r4 => nm (x1 + r4) fun z5 => f_X9_allDepths_l8 N M n z5 (x2 + 1))
def f_X9_allDepths (N : Nat) (M : Mem) : Option (Int32 × Mem) :=
  (f_X9_settle N M).bind fun M1 => f_X9_allDepths_l8 N M1 N 0 0
def f_X11_pool (N : Nat) (M : Mem) (x1 : Int32) : Option (Int32 × Mem) :=
  (f_X11_refusalOf M x1 1).bind fun r1 => if r1 = 0 then ((f_X9_measure N M x1).bind fun M3 => (f_X9_allDepths N M3).bind fun q4 => some (q4.1, q4.2)) else (some (r1, M))
def f_X9_poolIfLifted (N : Nat) (M : Mem) (x1 : Int32) (x2 : Int32) : Option (Int32 × Mem) :=
  if inb x1 30 then nm (up M 35 x1.toNatClampNeg ((M 35 x1.toNatClampNeg) + x2)) fun M2 => (f_X9_allDepths N M2).bind fun q3 => nm (up q3.2 35 x1.toNatClampNeg ((q3.2 35 x1.toNatClampNeg) - x2)) fun M4 => some (q3.1, M4) else none
def f_X9_bestLifted_l12 (N : Nat) (x1 : Int32) : Nat → Mem → Int32 → Int32 → Int32 → Option (Int32 × Mem)
  | 0, _, _, _, _ => none
  | n + 1, M, x2, x3, x4 => (f_X3_stones M).bind fun r2 => if r2 ≤ x4 then (some (x2, M)) else ((f_X9_poolIfLifted N M x4 x1).bind fun q4 => if x3 ≤ q4.1 then (f_X9_bestLifted_l12 N x1 n q4.2 x2 x3 (x4 + 1)) else (f_X9_bestLifted_l12 N x1 n q4.2 x4 q4.1 (x4 + 1)))
def f_X9_bestLifted (N : Nat) (M : Mem) (x1 : Int32) : Option (Int32 × Mem) :=
  (f_X9_poolIfLifted N M 0 x1).bind fun q1 => f_X9_bestLifted_l12 N x1 N q1.2 0 q1.1 1
def f_X11_drain (N : Nat) (M : Mem) (x1 : Int32) (x2 : Int32) (x3 : Int32) : Option (Int32 × Mem) :=
  (f_X11_isWithin x2 1 99).bind fun r1 => if r1 = 0 then ((f_X11_refusalOf M x1 0).bind fun r3 => if r3 = 0 then ((f_X9_measure N M x1).bind fun M5 => (f_X9_bestLifted N M5 x2).bind fun q6 => if x3 = 0 then (some (q6.1, q6.2)) else ((f_X9_poolIfLifted N q6.2 q6.1 x2).bind fun q8 => some (q8.1, q8.2))) else (some (r3, M))) else ((f_X11_isWithin x3 0 1).bind fun r9 => if r9 = 0 then ((f_X11_refusalOf M x1 0).bind fun r11 => if r11 = 0 then ((f_X9_measure N M x1).bind fun M13 => (f_X9_bestLifted N M13 x2).bind fun q14 => if x3 = 0 then (some (q14.1, q14.2)) else ((f_X9_poolIfLifted N q14.2 q14.1 x2).bind fun q16 => some (q16.1, q16.2))) else (some (r11, M))) else ((f_X11_refusalOf M x1 1).bind fun r17 => if r17 = 0 then ((f_X9_measure N M x1).bind fun M19 => (f_X9_bestLifted N M19 x2).bind fun q20 => if x3 = 0 then (some (q20.1, q20.2)) else ((f_X9_poolIfLifted N q20.2 q20.1 x2).bind fun q22 => some (q22.1, q22.2))) else (some (r17, M))))
def f_X3_areBeside (M : Mem) (x1 : Int32) (x2 : Int32) : Option (Int32) :=
  if inb x1 30 then if inb x2 30 then if ((ab ((M 24 x1.toNatClampNeg) - (M 24 x2.toNatClampNeg))) + (ab ((M 25 x1.toNatClampNeg) - (M 25 x2.toNatClampNeg)))) = 1 then (some 1) else (some 0) else none else none
def f_X11_statue_l52 (N : Nat) (M : Mem) (x1 : Int32) (x2 : Int32) (x3 : Int32) : Nat → Int32 → Option (Int32)
  | 0, _ => none
  | n + 1, x4 => if 12 ≤ x4 then (some (-9)) else ((f_X3_heightOf M x1 x4).bind fun r10 => (f_X3_heightOf M x2 x4).bind fun r11 => if (ab (r10 - r11)) ≤ x3 then (f_X11_statue_l52 N M x1 x2 x3 n (x4 + 1)) else (some x4))
def f_X11_statue (N : Nat) (M : Mem) (x1 : Int32) (x2 : Int32) (x3 : Int32) : Option (Int32) :=
  (f_X3_has M x1).bind fun r1 => if r1 = 0 then (some (-1)) else ((f_X3_has M x2).bind fun r3 => if r3 = 0 then (some (-1)) else ((f_X11_isApart x3).bind fun r5 => if r5 = 0 then (some (-2)) else ((f_X3_areBeside M x1 x2).bind fun r7 => if r7 = 0 then (some (-3)) else (f_X11_statue_l52 N M x1 x2 x3 N 0))))
def f_X2_putInOrder_l17 (kc : Mem → Int32 → Option (Mem)) (N : Nat) (x3 : Int32) : Nat → Mem → Int32 → Option (Mem)
  | 0, _, _ => none
  | n + 1, M, x4 => if x4 ≤ 0 then (kc M x4) else (if inb (x4 - 1) 30 then if (M 37 (x4 - 1).toNatClampNeg) ≤ x3 then (kc M x4) else (if inb x4 30 then nm (up M 37 x4.toNatClampNeg (M 37 (x4 - 1).toNatClampNeg)) fun M8 => f_X2_putInOrder_l17 kc N x3 n M8 (x4 + (-1)) else none) else none)
def f_X2_putInOrder_l2 (N : Nat) (x1 : Int32) : Nat → Mem → Int32 → Option (Mem)
  | 0, _, _ => none
  | n + 1, M, x2 => if x1 ≤ x2 then (some M) else (if inb x2 30 then nm (M 37 x2.toNatClampNeg) fun z3 => f_X2_putInOrder_l17 (fun M9 y4_9 => if inb y4_9 30 then nm (up M9 37 y4_9.toNatClampNeg z3) fun M11 => f_X2_putInOrder_l2 N x1 n M11 (x2 + 1) else none) N z3 N M x2 else none)
def f_X2_putInOrder (N : Nat) (M : Mem) (x1 : Int32) : Option (Mem) :=
  f_X2_putInOrder_l2 N x1 N M 1
def f_X2_nightsTill_l105 (kc : Mem → Option (Int32 × Mem)) (N : Nat) (x5 : Int32) : Nat → Mem → Int32 → Option (Int32 × Mem)
  | 0, _, _ => none
  | n + 1, M, x7 => if x5 ≤ x7 then (kc M) else (if inb x7 30 then nm (up M 37 x7.toNatClampNeg ((M 37 x7.toNatClampNeg) + 32)) fun M10 => f_X2_nightsTill_l105 kc N x5 n M10 (x7 + 1) else none)
def f_X2_nightsTill_l59 (N : Nat) (x3 : Int32) (x4 : Int32) (x5 : Int32) : Nat → Mem → Int32 → Option (Int32 × Mem)
  | 0, _, _ => none
  | n + 1, M, x6 => if 500 < x6 then (some ((-9), M)) else ((f_X2_putInOrder N M x4).bind fun M5 => if inb (x4 - 1) 30 then if x3 < (((M5 37 (x4 - 1).toNatClampNeg) / 32) - ((M5 37 (0 : Int32).toNatClampNeg) / 32)) then (f_X2_nightsTill_l105 (fun M11 => f_X2_nightsTill_l59 N x3 x4 x5 n M11 (x6 + 1)) N x5 N M5 0) else (some (x6, M5)) else none)
def f_X2_nightsTill_l20 (N : Nat) (x1 : Int32) (x3 : Int32) (x4 : Int32) (x5 : Int32) : Nat → Mem → Int32 → Option (Int32 × Mem)
  | 0, _, _ => none
  | n + 1, M, x6 => if x4 ≤ x6 then (f_X2_nightsTill_l59 N x3 x4 x5 N M 0) else ((f_X3_heightOf M x6 x1).bind fun r12 => if inb x6 30 then nm (up M 37 x6.toNatClampNeg ((r12 * 32) + x6)) fun M14 => f_X2_nightsTill_l20 N x1 x3 x4 x5 n M14 (x6 + 1) else none)
def f_X2_nightsTill (N : Nat) (M : Mem) (x1 : Int32) (x2 : Int32) (x3 : Int32) : Option (Int32 × Mem) :=
  (f_X3_stones M).bind fun r1 => nm (mn x2 r1) fun z2 => f_X2_nightsTill_l20 N x1 x3 r1 z2 N M 0
def f_X11_nights (N : Nat) (M : Mem) (x1 : Int32) (x2 : Int32) (x3 : Int32) : Option (Int32 × Mem) :=
  (f_X11_isWithin x2 1 9).bind fun r1 => if r1 = 0 then ((f_X11_refusalOf M x1 0).bind fun r3 => if r3 = 0 then ((f_X2_nightsTill N M x1 x2 x3).bind fun q5 => some (q5.1, q5.2)) else (some (r3, M))) else ((f_X11_isApart x3).bind fun r6 => if r6 = 0 then ((f_X11_refusalOf M x1 0).bind fun r8 => if r8 = 0 then ((f_X2_nightsTill N M x1 x2 x3).bind fun q10 => some (q10.1, q10.2)) else (some (r8, M))) else ((f_X11_refusalOf M x1 1).bind fun r11 => if r11 = 0 then ((f_X2_nightsTill N M x1 x2 x3).bind fun q13 => some (q13.1, q13.2)) else (some (r11, M))))
def f_X5_isFull (M : Mem) : Option (Int32) :=
  if (M 7 4) < 10 then (some 0) else (some 1)
def f_X5_take (M : Mem) (x1 : Int32) (x2 : Int32) (x3 : Int32) : Option (Int32 × Mem) :=
  if inb (M 7 4) 10 then nm (up M 38 (M 7 4).toNatClampNeg x1) fun M2 => if inb (M2 7 4) 10 then nm (up M2 39 (M2 7 4).toNatClampNeg x2) fun M4 => if inb (M4 7 4) 10 then nm (up M4 40 (M4 7 4).toNatClampNeg x3) fun M6 => nm (up M6 7 4 ((M6 7 4) + 1)) fun M7 => some (((M7 7 4) - 1), M7) else none else none else none
def f_X11_reading (M : Mem) (x1 : Int32) (x2 : Int32) (x3 : Int32) : Option (Int32 × Mem) :=
  (f_X3_has M x1).bind fun r1 => if r1 = 0 then (some ((-1), M)) else ((f_X11_isMonth x2).bind fun r3 => if r3 = 0 then (some ((-1), M)) else ((f_X11_isApart x3).bind fun r5 => if r5 = 0 then (some ((-2), M)) else ((f_X5_isFull M).bind fun r7 => if r7 = 0 then ((f_X5_take M x1 x2 x3).bind fun q9 => some (q9.1, q9.2)) else (some ((-4), M)))))
def f_X5_takeBack (M : Mem) (x1 : Int32) : Option (Int32 × Mem) :=
  nm (up M 7 4 ((M 7 4) - x1)) fun M1 => some ((M1 7 4), M1)
def f_X11_back (M : Mem) (x1 : Int32) : Option (Int32 × Mem) :=
  (f_X11_isWithin x1 0 (M 7 4)).bind fun r1 => if r1 = 0 then (some ((-2), M)) else ((f_X5_takeBack M x1).bind fun q3 => some (q3.1, q3.2))
def f_X5_areAllSo_l2 (N : Nat) (M : Mem) (x1 : Int32) (x2 : Int32) : Nat → Int32 → Option (Int32)
  | 0, _ => none
  | n + 1, x3 => if (M 7 4) ≤ x3 then (some 1) else (if inb x3 10 then if (M 38 x3.toNatClampNeg) = x1 then ((f_X3_heightAs M x2 x1 (M 39 x3.toNatClampNeg)).bind fun r4 => if r4 = (M 40 x3.toNatClampNeg) then (f_X5_areAllSo_l2 N M x1 x2 n (x3 + 1)) else (some 0)) else (f_X5_areAllSo_l2 N M x1 x2 n (x3 + 1)) else none)
def f_X5_areAllSo (N : Nat) (M : Mem) (x1 : Int32) (x2 : Int32) : Option (Int32) :=
  f_X5_areAllSo_l2 N M x1 x2 N 0
def f_X5_kindsOf_l4 (N : Nat) (M : Mem) (x1 : Int32) : Nat → Int32 → Int32 → Option (Int32)
  | 0, _, _ => none
  | n + 1, x2, x3 => if 3 ≤ x3 then (some x2) else ((f_X5_areAllSo N M x1 x3).bind fun r2 => if r2 = 0 then (f_X5_kindsOf_l4 N M x1 n x2 (x3 + 1)) else (nm (x2 ||| ((1 : Int32) <<< (x3 &&& 31))) fun z4 => f_X5_kindsOf_l4 N M x1 n z4 (x3 + 1)))
def f_X5_kindsOf (N : Nat) (M : Mem) (x1 : Int32) : Option (Int32) :=
  f_X5_kindsOf_l4 N M x1 N 0 0
def f_X11_kinds (N : Nat) (M : Mem) (x1 : Int32) : Option (Int32) :=
  (f_X3_has M x1).bind fun r1 => if r1 = 0 then (some (-1)) else ((f_X5_kindsOf N M x1).bind fun r3 => some r3)
def f_X6_renew_l2 (N : Nat) (k : Nat) (x1 : Int32) (x2 : Int32) : Nat → Mem → Int32 → Option (Mem)
  | 0, _, _ => none
  | n + 1, M, x3 => if x2 ≤ x3 then (nm (up M (9 + k) 1 x1) fun M2 => nm (up M2 (9 + k) 2 x2) fun M3 => some M3) else (if inb x3 80 then nm (up M (13 + k) x3.toNatClampNeg 0) fun M5 => f_X6_renew_l2 N k x1 x2 n M5 (x3 + 1) else none)
def f_X6_renew (N : Nat) (k : Nat) (M : Mem) (x1 : Int32) (x2 : Int32) : Option (Mem) :=
  f_X6_renew_l2 N k x1 x2 N M 0
def f_X11_sheet (N : Nat) (M : Mem) (x1 : Int32) (x2 : Int32) (x3 : Int32) : Option (Int32 × Mem) :=
  nm (up M 0 8 0) fun M1 => (f_X11_isSheet x1).bind fun r2 => if r2 = 0 then (some ((-1), M1)) else ((f_X11_isSort x2).bind fun r4 => if r4 = 0 then (some ((-2), M1)) else (if x3 ≤ 80 then (if 0 ≤ x3 then (if inb x1 4 then (f_X6_renew N (x1.toNatClampNeg) M1 x2 x3).bind fun M9 => some (1, M9) else none) else ((f_X11_failed M1 4).bind fun q10 => some (q10.1, q10.2))) else (some ((-2), M1))))
def f_X6_clear (k : Nat) (M : Mem) : Option (Int32 × Mem) :=
  (f_X6_isNothing k M).bind fun r1 => if r1 = 0 then (nm (up M (9 + k) 1 (-1)) fun M5 => nm (up M5 (9 + k) 2 0) fun M6 => some (1, M6)) else (nm (up M (9 + k) 1 (-1)) fun M3 => nm (up M3 (9 + k) 2 0) fun M4 => some (0, M4))
def f_X11_lose (M : Mem) (x1 : Int32) : Option (Int32 × Mem) :=
  (f_X11_isSheet x1).bind fun r1 => if r1 = 0 then (some ((-1), M)) else (if inb x1 4 then (f_X6_clear (x1.toNatClampNeg) M).bind fun q4 => if q4.1 = 0 then (some (0, q4.2)) else (some (1, q4.2)) else none)
def f_X6_hasCell (k : Nat) (M : Mem) (x1 : Int32) : Option (Int32) :=
  if x1 < 0 then (some 0) else (if (M (9 + k) 2) ≤ x1 then (some 0) else (some 1))
def f_X6_write (k : Nat) (M : Mem) (x1 : Int32) (x2 : Int32) : Option (Mem) :=
  nm (M (9 + k) 1) fun z1 => if z1 = 0 then (if inb x1 80 then nm (up M (13 + k) x1.toNatClampNeg (x2.toInt8.toInt32)) fun M4 => some M4 else none) else (if z1 = 1 then (if inb x1 80 then nm (up M (13 + k) x1.toNatClampNeg (x2.toInt16.toInt32)) fun M7 => some M7 else none) else (if inb x1 80 then nm (up M (13 + k) x1.toNatClampNeg x2) fun M9 => some M9 else none))
def f_X11_put (M : Mem) (x1 : Int32) (x2 : Int32) (x3 : Int32) : Option (Int32 × Mem) :=
  nm (up M 0 8 0) fun M1 => (f_X11_isSheet x1).bind fun r2 => if r2 = 0 then (some ((-1), M1)) else (if inb x1 4 then (f_X6_isNothing (x1.toNatClampNeg) M1).bind fun r5 => if r5 = 0 then ((f_X6_hasCell (x1.toNatClampNeg) M1 x2).bind fun r7 => if r7 = 0 then ((f_X11_failed M1 3).bind fun q10 => some (q10.1, q10.2)) else ((f_X6_write (x1.toNatClampNeg) M1 x2 x3).bind fun M9 => some (1, M9))) else ((f_X11_failed M1 1).bind fun q11 => some (q11.1, q11.2)) else none)
def f_X11_cell (M : Mem) (x1 : Int32) (x2 : Int32) (x3 : Int32) : Option (Int64 × Mem) :=
  nm (up M 0 8 0) fun M1 => (f_X11_isSheet x1).bind fun r2 => if r2 = 0 then (some ((-9223372036854775808), M1)) else ((f_X11_isSort x3).bind fun r4 => if r4 = 0 then (some ((-9223372036854775808), M1)) else (if inb x1 4 then (f_X6_faultAs (x1.toNatClampNeg) M1 x3).bind fun r7 => if r7 = 0 then ((f_X6_hasCell (x1.toNatClampNeg) M1 x2).bind fun r10 => if r10 = 0 then (nm (up M1 0 8 3) fun M14 => some ((-9223372036854775808), M14)) else (nm (up M1 0 8 r7) fun M12 => if inb x2 80 then some ((M12 (13 + (x1.toNatClampNeg)) x2.toNatClampNeg).toInt64, M12) else none)) else (nm (up M1 0 8 r7) fun M9 => some ((-9223372036854775808), M9)) else none))
def f_X11_copy (M : Mem) (x1 : Int32) (x2 : Int32) (x3 : Int32) (x4 : Int32) (x5 : Int32) : Option (Int32 × Mem) :=
  nm (up M 0 8 0) fun M1 => (f_X11_isSheet x1).bind fun r2 => if r2 = 0 then (some ((-1), M1)) else ((f_X11_isSheet x3).bind fun r4 => if r4 = 0 then (some ((-1), M1)) else (if inb x1 4 then if inb x3 4 then (f_X6_isNothing (x1.toNatClampNeg) M1).bind fun r8 => if r8 = 0 then ((f_X6_isNothing (x3.toNatClampNeg) M1).bind fun r11 => if r11 = 0 then (if (M1 (9 + (x1.toNatClampNeg)) 1) = (M1 (9 + (x3.toNatClampNeg)) 1) then (if x5 < 0 then ((f_X11_failed M1 3).bind fun q15 => some (q15.1, q15.2)) else ((f_X6_hasCells (x1.toNatClampNeg) M1 x2 x5).bind fun r16 => if r16 = 0 then ((f_X11_failed M1 3).bind fun q18 => some (q18.1, q18.2)) else ((f_X6_hasCells (x3.toNatClampNeg) M1 x4 x5).bind fun r19 => if r19 = 0 then ((f_X11_failed M1 3).bind fun q23 => some (q23.1, q23.2)) else (if (¬ x2 < 0) ∧ (¬ x4 < 0) ∧ (¬ x5 < 0) ∧ x2.toNatClampNeg + x5.toNatClampNeg ≤ 80 ∧ x4.toNatClampNeg + x5.toNatClampNeg ≤ 80 then nm (upA M1 (13 + (x3.toNatClampNeg)) (va_cpy (M1 (13 + (x1.toNatClampNeg))) (M1 (13 + (x3.toNatClampNeg))) x2.toNatClampNeg x4.toNatClampNeg x5.toNatClampNeg)) fun M22 => some (x5, M22) else none)))) else ((f_X11_failed M1 2).bind fun q24 => some (q24.1, q24.2))) else ((f_X11_failed M1 1).bind fun q25 => some (q25.1, q25.2))) else ((f_X11_failed M1 1).bind fun q10 => some (q10.1, q10.2)) else none else none))
def f_X3_bodyOf (M : Mem) (x1 : Int32) : Option (Nat) :=
  if inb x1 30 then if inb (M 21 x1.toNatClampNeg) 3 then some ((M 21 x1.toNatClampNeg).toNatClampNeg) else none else none
def f_X8_leave (M : Mem) (x1 : Int32) : Option (Mem) :=
  nm (up M 1 0 ((31 * (M 1 0)) + x1)) fun M1 => some M1
def f_X7_stoneTelling (M : Mem) (x1 : Int32) : Option (Int32 × Mem) :=
  (f_X8_leave M 1).bind fun M1 => some (x1, M1)
def f_X7_telling (M : Mem) (x1 : Int32) : Option (Int32 × Mem) :=
  (f_X7_stoneTelling M x1).bind fun q1 => some (q1.1, q1.2)
def f_X0_telling (M : Mem) (x1 : Int32) : Option (Int32 × Mem) :=
  (f_X8_leave M 2).bind fun M1 => (f_X7_telling M1 x1).bind fun q2 => some ((q2.1 + 100), q2.2)
def f_X1_telling (M : Mem) (x1 : Int32) : Option (Int32 × Mem) :=
  (f_X8_leave M 3).bind fun M1 => (f_X0_telling M1 x1).bind fun q2 => (f_X7_stoneTelling q2.2 x1).bind fun q3 => some ((q2.1 + q3.1), q3.2)
def f_X11_tell (M : Mem) (x1 : Int32) : Option (Int32 × Mem) :=
  (f_X3_has M x1).bind fun r1 => if r1 = 0 then (some ((-1), M)) else ((f_X3_bodyOf M x1).bind fun r3 => if inb x1 30 then if r3 = 0 then ((f_X7_telling M (M 22 x1.toNatClampNeg)).bind fun q6 => some (q6.1, q6.2)) else (if r3 = 1 then ((f_X0_telling M (M 22 x1.toNatClampNeg)).bind fun q8 => some (q8.1, q8.2)) else (if r3 = 2 then ((f_X1_telling M (M 22 x1.toNatClampNeg)).bind fun q10 => some (q10.1, q10.2)) else (none))) else none)
def f_X7_trodden (M : Mem) (x1 : Int32) : Option (Int32 × Mem) :=
  (f_X8_leave M 4).bind fun M1 => some (x1, M1)
def f_X1_trodden (M : Mem) (x1 : Int32) : Option (Int32 × Mem) :=
  (f_X8_leave M 5).bind fun M1 => some (50, M1)
def f_X11_tread (M : Mem) (x1 : Int32) : Option (Int32 × Mem) :=
  (f_X3_has M x1).bind fun r1 => if r1 = 0 then (some ((-1), M)) else ((f_X3_bodyOf M x1).bind fun r3 => if r3 = 0 then ((f_X7_trodden M x1).bind fun q5 => some (q5.1, q5.2)) else (if r3 = 1 then ((f_X7_trodden M x1).bind fun q7 => some (q7.1, q7.2)) else (if r3 = 2 then ((f_X1_trodden M x1).bind fun q9 => some (q9.1, q9.2)) else (none))))
def f_X11_as (M : Mem) (x1 : Int32) (x2 : Int32) : Option (Int32 × Mem) :=
  nm (up M 0 8 0) fun M1 => (f_X3_has M1 x1).bind fun r2 => if r2 = 0 then (some ((-1), M1)) else ((f_X11_isWithin x2 0 2).bind fun r4 => if r4 = 0 then (some ((-2), M1)) else (if inb x1 30 then if x2 ≤ (M1 21 x1.toNatClampNeg) then (some (1, M1)) else ((f_X11_failed M1 2).bind fun q8 => some (q8.1, q8.2)) else none))
def f_X11_trace (M : Mem) : Option (Int32) :=
  some (M 1 0)
def f_X11_fault (M : Mem) : Option (Int32) :=
  some (M 0 8)
def f_X11_many (M : Mem) (x1 : Int32) : Option (Int32) :=
  if x1 = 0 then ((f_X3_stones M).bind fun r2 => some r2) else (if x1 = 1 then (some (M 2 9)) else (if x1 = 2 then (some (M 7 4)) else (some (-2))))
def f_X12_fails (M : Mem) (x1 : Int32) : Option (Int32 × Mem) :=
  nm (up M 0 0 x1) fun M1 => some (((-10) - x1), M1)
def f_X12_lost (M : Mem) (x1 : Int32) : Option (Int64 × Mem) :=
  nm (up M 0 0 x1) fun M1 => some ((-9223372036854775808), M1)
def f_X12_within (x0 : Int32) (x1 : Int32) (x2 : Int32) : Option (Int32) :=
  if x0 < x1 then (some 0) else (if x2 < x0 then (some 0) else (some 1))
def f_X12_isSheet (x0 : Int32) : Option (Int32) :=
  (f_X12_within x0 0 3).bind fun r1 => if r1 = 0 ∨ r1 = 1 then some r1 else none
def f_X12_isSort (x0 : Int32) : Option (Int32) :=
  (f_X12_within x0 0 2).bind fun r1 => if r1 = 0 ∨ r1 = 1 then some r1 else none
def f_X12_against (M : Mem) (x1 : Int32) (x2 : Int32) (x3 : Int32) (x4 : Int32) : Option (Int32) :=
  if inb x1 4 then if (M 1 x1.toNatClampNeg) = (-9) then (some 1) else (if (M 1 x1.toNatClampNeg) = x2 then (if 0 ≤ x4 then (if x3 < 0 then (some 3) else (if (M 2 x1.toNatClampNeg) < x3 then (some 3) else (if x4 ≤ ((M 2 x1.toNatClampNeg) - x3) then (some 0) else (some 3)))) else (some 4)) else (some 2)) else none
def f_X12_all (M : Mem) : Option (Int32) :=
  some ((M 0 5) * (M 0 6))
def f_X12_isStone (M : Mem) (x1 : Int32) : Option (Int32) :=
  if x1 < 0 then (some 0) else ((f_X12_all M).bind fun r2 => if r2 ≤ x1 then (some 0) else (some 1))
def f_X12_isMonth (x0 : Int32) : Option (Int32) :=
  (f_X12_within x0 0 11).bind fun r1 => if r1 = 0 ∨ r1 = 1 then some r1 else none
def f_X12_digit (M : Mem) (x1 : Int32) (x2 : Int32) (x3 : Int32) : Option (Int32 × Mem) :=
  if x1 ≤ (M 0 12) then (some ((-9), M)) else (if inb (M 0 12) 320 then (f_X12_within (M 3 (M 0 12).toNatClampNeg) (48 + x2) (48 + x3)).bind fun r3 => if r3 = 0 then (some ((-9), M)) else (nm (up M 0 12 ((M 0 12) + 1)) fun M5 => if inb ((M5 0 12) - 1) 320 then some (((M5 3 ((M5 0 12) - 1).toNatClampNeg) - 48), M5) else none) else none)
def f_X12_readStone (M : Mem) (x1 : Int32) (x2 : Int32) : Option (Int32 × Mem) :=
  if (M 0 12) < x1 then (if inb (M 0 12) 320 then nm (M 3 (M 0 12).toNatClampNeg) fun z3 => if z3 = 115 then (if inb x2 30 then nm (up M 9 x2.toNatClampNeg 0) fun M29 => if (M29 9 x2.toNatClampNeg) = (-9) then (some (0, M29)) else (nm (up M29 0 12 ((M29 0 12) + 1)) fun M31 => (f_X12_digit M31 x1 0 9).bind fun q32 => nm (up q32.2 10 x2.toNatClampNeg q32.1) fun M33 => if (M33 10 x2.toNatClampNeg) = (-9) then (some (0, M33)) else (some (1, M33))) else none) else (if z3 = 99 then (if inb x2 30 then nm (up M 9 x2.toNatClampNeg 1) fun M22 => if (M22 9 x2.toNatClampNeg) = (-9) then (some (0, M22)) else (nm (up M22 0 12 ((M22 0 12) + 1)) fun M24 => (f_X12_digit M24 x1 0 9).bind fun q25 => nm (up q25.2 10 x2.toNatClampNeg q25.1) fun M26 => if (M26 10 x2.toNatClampNeg) = (-9) then (some (0, M26)) else (some (1, M26))) else none) else (if z3 = 102 then (if inb x2 30 then nm (up M 9 x2.toNatClampNeg 2) fun M15 => if (M15 9 x2.toNatClampNeg) = (-9) then (some (0, M15)) else (nm (up M15 0 12 ((M15 0 12) + 1)) fun M17 => (f_X12_digit M17 x1 0 9).bind fun q18 => nm (up q18.2 10 x2.toNatClampNeg q18.1) fun M19 => if (M19 10 x2.toNatClampNeg) = (-9) then (some (0, M19)) else (some (1, M19))) else none) else (if inb x2 30 then nm (up M 9 x2.toNatClampNeg (-9)) fun M8 => if (M8 9 x2.toNatClampNeg) = (-9) then (some (0, M8)) else (nm (up M8 0 12 ((M8 0 12) + 1)) fun M10 => (f_X12_digit M10 x1 0 9).bind fun q11 => nm (up q11.2 10 x2.toNatClampNeg q11.1) fun M12 => if (M12 10 x2.toNatClampNeg) = (-9) then (some (0, M12)) else (some (1, M12))) else none))) else none) else (some (0, M))
def f_X12_readSquare_l125 (kc : Mem → Option (Int32 × Mem)) (N : Nat) (x1 : Int32) (x2 : Int32) : Nat → Mem → Int32 → Option (Int32 × Mem)
  | 0, _, _ => none
  | n + 1, M, x3 => if (M 0 14) ≤ x3 then (kc M) else ((f_X12_readStone M x1 (((M 0 14) * x2) + x3)).bind fun q18 => if q18.1 = 0 then (some (0, q18.2)) else (f_X12_readSquare_l125 kc N x1 x2 n q18.2 (x3 + 1)))
def f_X12_readSquare_l81 (N : Nat) (x1 : Int32) : Nat → Mem → Int32 → Option (Int32 × Mem)
  | 0, _, _ => none
  | n + 1, M, x2 => if (M 0 13) ≤ x2 then (if (M 0 12) = x1 then (some (1, M)) else (some (0, M))) else (if x1 ≤ (M 0 12) then (some (0, M)) else (if inb (M 0 12) 320 then if (M 3 (M 0 12).toNatClampNeg) = 59 then (nm (up M 0 12 ((M 0 12) + 1)) fun M16 => f_X12_readSquare_l125 (fun M20 => f_X12_readSquare_l81 N x1 n M20 (x2 + 1)) N x1 x2 N M16 0) else (some (0, M)) else none))
def f_X12_readSquare (N : Nat) (M : Mem) (x1 : Int32) : Option (Int32 × Mem) :=
  if x1 ≤ (M 0 12) then (some (0, M)) else (if inb (M 0 12) 320 then if (M 3 (M 0 12).toNatClampNeg) = 113 then (nm (up M 0 12 ((M 0 12) + 1)) fun M4 => (f_X12_digit M4 x1 2 5).bind fun q5 => nm (up q5.2 0 13 q5.1) fun M6 => if (M6 0 13) = (-9) then (some (0, M6)) else ((f_X12_digit M6 x1 2 6).bind fun q8 => nm (up q8.2 0 14 q8.1) fun M9 => if (M9 0 14) = (-9) then (some (0, M9)) else (f_X12_readSquare_l81 N x1 N M9 0))) else (some (0, M)) else none)
def f_X12_square_l157 (N : Nat) : Nat → Mem → Int32 → Option (Int32 × Mem)
  | 0, _, _ => none
  | n + 1, M, x7 => if 12 ≤ x7 then (nm (up M 0 21 0) fun M17 => (f_X12_all M17).bind fun r18 => some (r18, M17)) else (if inb x7 12 then nm (up M 7 x7.toNatClampNeg 0) fun M20 => nm (up M20 8 x7.toNatClampNeg 0) fun M21 => f_X12_square_l157 N n M21 (x7 + 1) else none)
def f_X12_square_l103 (N : Nat) : Nat → Mem → Int32 → Option (Int32 × Mem)
  | 0, _, _ => none
  | n + 1, M, x7 => (f_X12_all M).bind fun r14 => if r14 ≤ x7 then (f_X12_square_l157 N N M 0) else (if inb x7 30 then nm (up M 4 x7.toNatClampNeg (M 9 x7.toNatClampNeg)) fun M23 => nm (up M23 5 x7.toNatClampNeg (M23 10 x7.toNatClampNeg)) fun M24 => nm (up M24 6 x7.toNatClampNeg 0) fun M25 => f_X12_square_l103 N n M25 (x7 + 1) else none)
def f_X12_square (N : Nat) (M : Mem) (x1 : Int32) (x2 : Int32) (x3 : Int32) (x4 : Int32) : Option (Int32 × Mem) :=
  nm (up M 0 0 0) fun M1 => (f_X12_isSheet x1).bind fun r2 => if r2 = 0 then (some ((-1), M1)) else ((f_X12_isSort x2).bind fun r4 => if r4 = 0 then (some ((-2), M1)) else ((f_X12_against M1 x1 x2 x3 x4).bind fun r6 => if r6 = 0 then (nm ((80 * x1) + x3) fun z8 => nm (up M1 0 12 z8) fun M9 => (f_X12_readSquare N M9 (z8 + x4)).bind fun q10 => if q10.1 = 0 then (some (((-100) - ((q10.2 0 12) - z8)), q10.2)) else (nm (up q10.2 0 5 (q10.2 0 13)) fun M12 => nm (up M12 0 6 (M12 0 14)) fun M13 => f_X12_square_l103 N N M13 0)) else ((f_X12_fails M1 r6).bind fun q26 => some (q26.1, q26.2))))
def f_X12_ofStone (M : Mem) (x1 : Int32) (x2 : Int32) : Option (Int32) :=
  (f_X12_isStone M x1).bind fun r1 => if r1 = 0 then (some (-1)) else (if x2 = 0 then (if inb x1 30 then some (M 4 x1.toNatClampNeg) else none) else (if x2 = 1 then (if inb x1 30 then some (M 5 x1.toNatClampNeg) else none) else (if x2 = 2 then (if inb x1 30 then some (M 6 x1.toNatClampNeg) else none) else (some (-2)))))
def f_X12_month (M : Mem) (x1 : Int32) (x2 : Int32) (x3 : Int32) : Option (Int32 × Mem) :=
  (f_X12_isMonth x1).bind fun r1 => if r1 = 0 then (some ((-1), M)) else ((f_X12_within x2 0 9).bind fun r3 => if r3 = 0 then (some ((-2), M)) else ((f_X12_within x3 0 9).bind fun r5 => if r5 = 0 then (some ((-2), M)) else ((f_X12_all M).bind fun r7 => if r7 = 0 then (some ((-3), M)) else (if inb x1 12 then nm ((10 * (M 7 x1.toNatClampNeg)) + (M 8 x1.toNatClampNeg)) fun z10 => nm (up M 7 x1.toNatClampNeg x2) fun M11 => nm (up M11 8 x1.toNatClampNeg x3) fun M12 => some (z10, M12) else none))))
def f_X12_lift (M : Mem) (x1 : Int32) (x2 : Int32) : Option (Int32 × Mem) :=
  (f_X12_isStone M x1).bind fun r1 => if r1 = 0 then (some ((-1), M)) else ((f_X12_within x2 0 99).bind fun r3 => if r3 = 0 then (some ((-2), M)) else (if inb x1 30 then nm (M 6 x1.toNatClampNeg) fun z6 => nm (up M 6 x1.toNatClampNeg x2) fun M7 => some (z6, M7) else none))
def f_X12_heightAs (M : Mem) (x1 : Int32) (x2 : Int32) (x3 : Int32) : Option (Int32) :=
  if inb x1 30 then nm ((10 * (M 5 x1.toNatClampNeg)) + (M 6 x1.toNatClampNeg)) fun z2 => if x2 ≤ 0 then (nm (z2 + 0) fun z4 => if x2 = 2 then (if inb x3 12 then some (z4 + (2 * (M 8 x3.toNatClampNeg))) else none) else (some z4)) else (if inb x3 12 then nm (z2 + (3 * (M 7 x3.toNatClampNeg))) fun z8 => if x2 = 2 then (some (z8 + (2 * (M 8 x3.toNatClampNeg)))) else (some z8) else none) else none
def f_X12_heightOf (M : Mem) (x1 : Int32) (x2 : Int32) : Option (Int32) :=
  if inb x1 30 then (f_X12_heightAs M x1 (M 4 x1.toNatClampNeg) x2).bind fun r2 => some r2 else none
def f_X12_height (M : Mem) (x1 : Int32) (x2 : Int32) : Option (Int32) :=
  (f_X12_isStone M x1).bind fun r1 => if r1 = 0 then (some (-1)) else ((f_X12_isMonth x2).bind fun r3 => if r3 = 0 then (some (-1)) else ((f_X12_heightOf M x1 x2).bind fun r5 => some r5))
def f_X12_rises_l27 (N : Nat) (M : Mem) (x1 : Int32) (x2 : Int32) : Nat → Int32 → Int32 → Option (Int32)
  | 0, _, _ => none
  | n + 1, x3, x4 => if 12 ≤ x4 then (some x3) else (if x2 = 0 then ((f_X12_heightOf M x1 x4).bind fun r10 => (f_X12_heightOf M x1 x3).bind fun r11 => if r10 ≤ r11 then (f_X12_rises_l27 N M x1 x2 n x3 (x4 + 1)) else (f_X12_rises_l27 N M x1 x2 n x4 (x4 + 1))) else ((f_X12_heightOf M x1 x4).bind fun r7 => (f_X12_heightOf M x1 x3).bind fun r8 => if r8 ≤ r7 then (f_X12_rises_l27 N M x1 x2 n x3 (x4 + 1)) else (f_X12_rises_l27 N M x1 x2 n x4 (x4 + 1))))
def f_X12_rises (N : Nat) (M : Mem) (x1 : Int32) (x2 : Int32) : Option (Int32) :=
  (f_X12_isStone M x1).bind fun r1 => if r1 = 0 then (some (-1)) else ((f_X12_within x2 0 1).bind fun r3 => if r3 = 0 then (some (-2)) else (f_X12_rises_l27 N M x1 x2 N 0 1))
def f_X12_beside (M : Mem) (x1 : Int32) (x2 : Int32) : Option (Int32) :=
  if ¬ (M 0 6) = 0 then nm (x1 / (M 0 6)) fun z2 => nm (rem32 x1 (M 0 6)) fun z3 => if x2 = 0 then (if z2 ≤ 0 then (some (-9)) else (some (x1 - (M 0 6)))) else (if x2 = 1 then (if z3 ≤ 0 then (some (-9)) else (some (x1 - 1))) else (if x2 = 2 then (if ((M 0 6) - 1) ≤ z3 then (some (-9)) else (some (x1 + 1))) else (if ((M 0 5) - 1) ≤ z2 then (some (-9)) else (some (x1 + (M 0 6)))))) else none
def f_X12_size (x0 : Int32) : Option (Int32) :=
  if 0 ≤ x0 then (some x0) else (some (-x0))
def f_X12_isStep_l3 (N : Nat) (M : Mem) (x1 : Int32) (x2 : Int32) (x4 : Int32) (x5 : Int32) : Nat → Int32 → Option (Int32)
  | 0, _ => none
  | n + 1, x6 => if x4 < x6 then (some 1) else ((f_X12_heightOf M x1 x6).bind fun r2 => (f_X12_heightOf M x2 x6).bind fun r3 => (f_X12_size (r2 - r3)).bind fun r4 => if r4 ≤ x5 then (f_X12_isStep_l3 N M x1 x2 x4 x5 n (x6 + 1)) else (some 0))
def f_X12_isStep (N : Nat) (M : Mem) (x1 : Int32) (x2 : Int32) (x3 : Int32) (x4 : Int32) (x5 : Int32) : Option (Int32) :=
  f_X12_isStep_l3 N M x1 x2 x4 x5 N x3
def f_X12_findFar_l64 (kc : Mem → Option (Mem)) (N : Nat) (x2 : Int32) (x3 : Int32) (x4 : Int32) (x5 : Int32) (x6 : Int32) : Nat → Mem → Int32 → Option (Mem)
  | 0, _, _ => none
  | n + 1, M, x7 => if 4 ≤ x7 then (kc M) else (if inb x6 30 then if (M 11 x6.toNatClampNeg) = x5 then ((f_X12_beside M x6 x7).bind fun r10 => if r10 = (-9) then (f_X12_findFar_l64 kc N x2 x3 x4 x5 x6 n M (x7 + 1)) else (if inb r10 30 then if (M 11 r10.toNatClampNeg) = 999999 then ((f_X12_isStep N M x6 r10 x2 x3 x4).bind fun r14 => if r14 = 0 then (f_X12_findFar_l64 kc N x2 x3 x4 x5 x6 n M (x7 + 1)) else (nm (up M 11 r10.toNatClampNeg (x5 + 1)) fun M16 => f_X12_findFar_l64 kc N x2 x3 x4 x5 x6 n M16 (x7 + 1))) else (f_X12_findFar_l64 kc N x2 x3 x4 x5 x6 n M (x7 + 1)) else none)) else (kc M) else none)
def f_X12_findFar_l52 (kc : Mem → Option (Mem)) (N : Nat) (x2 : Int32) (x3 : Int32) (x4 : Int32) (x5 : Int32) : Nat → Mem → Int32 → Option (Mem)
  | 0, _, _ => none
  | n + 1, M, x6 => (f_X12_all M).bind fun r5 => if r5 ≤ x6 then (kc M) else (f_X12_findFar_l64 (fun M17 => f_X12_findFar_l52 kc N x2 x3 x4 x5 n M17 (x6 + 1)) N x2 x3 x4 x5 x6 N M 0)
def f_X12_findFar_l40 (N : Nat) (x2 : Int32) (x3 : Int32) (x4 : Int32) : Nat → Mem → Int32 → Option (Mem)
  | 0, _, _ => none
  | n + 1, M, x5 => (f_X12_all M).bind fun r3 => if r3 ≤ x5 then (some M) else (f_X12_findFar_l52 (fun M18 => f_X12_findFar_l40 N x2 x3 x4 n M18 (x5 + 1)) N x2 x3 x4 x5 N M 0)
def f_X12_findFar_l3 (N : Nat) (x1 : Int32) (x2 : Int32) (x3 : Int32) (x4 : Int32) : Nat → Mem → Int32 → Option (Mem)
  | 0, _, _ => none
  | n + 1, M, x5 => (f_X12_all M).bind fun r1 => if r1 ≤ x5 then (f_X12_findFar_l40 N x2 x3 x4 N M 0) else (if x5 = x1 then (if inb x5 30 then nm (up M 11 x5.toNatClampNeg 0) fun M23 => f_X12_findFar_l3 N x1 x2 x3 x4 n M23 (x5 + 1) else none) else (if inb x5 30 then nm (up M 11 x5.toNatClampNeg 999999) fun M21 => f_X12_findFar_l3 N x1 x2 x3 x4 n M21 (x5 + 1) else none))
def f_X12_findFar (N : Nat) (M : Mem) (x1 : Int32) (x2 : Int32) (x3 : Int32) (x4 : Int32) : Option (Mem) :=
  f_X12_findFar_l3 N x1 x2 x3 x4 N M 0
def f_X12_way_l109 (kc : Int32 → Option (Int32 × Mem)) (N : Nat) (M : Mem) (x3 : Int32) (x4 : Int32) (x6 : Int32) : Nat → Int32 → Option (Int32 × Mem)
  | 0, _ => none
  | n + 1, x8 => (f_X12_beside M x6 x8).bind fun r16 => if r16 = (-9) then (f_X12_way_l109 kc N M x3 x4 x6 n (x8 + 1)) else ((f_X12_beside M x6 x8).bind fun r18 => if inb r18 30 then if inb x6 30 then if (M 11 r18.toNatClampNeg) = ((M 11 x6.toNatClampNeg) - 1) then ((f_X12_beside M x6 x8).bind fun r22 => (f_X12_isStep N M x6 r22 x3 x3 x4).bind fun r23 => if r23 = 0 then (f_X12_way_l109 kc N M x3 x4 x6 n (x8 + 1)) else (kc x8)) else (f_X12_way_l109 kc N M x3 x4 x6 n (x8 + 1)) else none else none)
def f_X12_way_l99 (N : Nat) (M : Mem) (x3 : Int32) (x4 : Int32) (x5 : Int32) : Nat → Int32 → Int32 → Option (Int32 × Mem)
  | 0, _, _ => none
  | n + 1, x6, x7 => if x5 ≤ x7 then (some (x6, M)) else (f_X12_way_l109 (fun y8_25 => (f_X12_beside M x6 y8_25).bind fun r26 => f_X12_way_l99 N M x3 x4 x5 n r26 (x7 + 1)) N M x3 x4 x6 N 0)
def f_X12_way (N : Nat) (M : Mem) (x1 : Int32) (x2 : Int32) (x3 : Int32) (x4 : Int32) (x5 : Int32) : Option (Int32 × Mem) :=
  (f_X12_isStone M x1).bind fun r1 => if r1 = 0 then (some ((-1), M)) else ((f_X12_isStone M x2).bind fun r3 => if r3 = 0 then (some ((-1), M)) else ((f_X12_isMonth x3).bind fun r5 => if r5 = 0 then (some ((-1), M)) else (if (-1) ≤ x5 then ((f_X12_within x4 0 999).bind fun r8 => if r8 = 0 then (some ((-2), M)) else ((f_X12_findFar N M x2 x3 x3 x4).bind fun M10 => if inb x1 30 then if (M10 11 x1.toNatClampNeg) = 999999 then (some ((-9), M10)) else (if x5 ≤ (M10 11 x1.toNatClampNeg) then (if x5 = (-1) then (some ((M10 11 x1.toNatClampNeg), M10)) else (f_X12_way_l99 N M10 x3 x4 x5 N x1 0)) else (some ((-9), M10))) else none)) else (some ((-1), M)))))
def f_X12_holds (N : Nat) (M : Mem) (x1 : Int32) (x2 : Int32) (x3 : Int32) (x4 : Int32) (x5 : Int32) : Option (Int32 × Mem) :=
  (f_X12_isStone M x1).bind fun r1 => if r1 = 0 then (some ((-1), M)) else ((f_X12_isStone M x2).bind fun r3 => if r3 = 0 then (some ((-1), M)) else ((f_X12_isMonth x3).bind fun r5 => if r5 = 0 then (some ((-1), M)) else ((f_X12_isMonth x4).bind fun r7 => if r7 = 0 then (some ((-1), M)) else (if x3 ≤ x4 then ((f_X12_within x5 0 999).bind fun r10 => if r10 = 0 then (some ((-2), M)) else ((f_X12_findFar N M x2 x3 x4 x5).bind fun M12 => if inb x1 30 then if (M12 11 x1.toNatClampNeg) = 999999 then (some ((-9), M12)) else (some ((M12 11 x1.toNatClampNeg), M12)) else none)) else (some ((-1), M))))))
def f_X12_leastStep_l89 (kc : Mem → Option (Int32 × Mem)) (N : Nat) (x3 : Int32) (x5 : Int32) : Nat → Mem → Int32 → Option (Int32 × Mem)
  | 0, _, _ => none
  | n + 1, M, x6 => if 4 ≤ x6 then (kc M) else ((f_X12_beside M x5 x6).bind fun r15 => if r15 = (-9) then (f_X12_leastStep_l89 kc N x3 x5 n M (x6 + 1)) else ((f_X12_heightOf M x5 x3).bind fun r17 => (f_X12_heightOf M r15 x3).bind fun r18 => (f_X12_size (r17 - r18)).bind fun r19 => if inb r15 30 then if (M 12 r15.toNatClampNeg) ≤ r19 then (if inb x5 30 then if (M 12 x5.toNatClampNeg) ≤ r19 then (nm (up M 12 x5.toNatClampNeg (M 12 x5.toNatClampNeg)) fun M24 => f_X12_leastStep_l89 kc N x3 x5 n M24 (x6 + 1)) else (nm (up M 12 x5.toNatClampNeg r19) fun M25 => f_X12_leastStep_l89 kc N x3 x5 n M25 (x6 + 1)) else none) else (nm (M 12 r15.toNatClampNeg) fun z26 => if inb x5 30 then if (M 12 x5.toNatClampNeg) ≤ z26 then (nm (up M 12 x5.toNatClampNeg (M 12 x5.toNatClampNeg)) fun M29 => f_X12_leastStep_l89 kc N x3 x5 n M29 (x6 + 1)) else (nm (up M 12 x5.toNatClampNeg z26) fun M30 => f_X12_leastStep_l89 kc N x3 x5 n M30 (x6 + 1)) else none) else none))
def f_X12_leastStep_l77 (kc : Mem → Option (Int32 × Mem)) (N : Nat) (x3 : Int32) : Nat → Mem → Int32 → Option (Int32 × Mem)
  | 0, _, _ => none
  | n + 1, M, x5 => (f_X12_all M).bind fun r12 => if r12 ≤ x5 then (kc M) else (f_X12_leastStep_l89 (fun M31 => f_X12_leastStep_l77 kc N x3 n M31 (x5 + 1)) N x3 x5 N M 0)
def f_X12_leastStep_l65 (N : Nat) (x1 : Int32) (x3 : Int32) : Nat → Mem → Int32 → Option (Int32 × Mem)
  | 0, _, _ => none
  | n + 1, M, x4 => (f_X12_all M).bind fun r9 => if r9 ≤ x4 then (if inb x1 30 then some ((M 12 x1.toNatClampNeg), M) else none) else (f_X12_leastStep_l77 (fun M32 => f_X12_leastStep_l65 N x1 x3 n M32 (x4 + 1)) N x3 N M 0)
def f_X12_leastStep_l28 (N : Nat) (x1 : Int32) (x2 : Int32) (x3 : Int32) : Nat → Mem → Int32 → Option (Int32 × Mem)
  | 0, _, _ => none
  | n + 1, M, x4 => (f_X12_all M).bind fun r7 => if r7 ≤ x4 then (f_X12_leastStep_l65 N x1 x3 N M 0) else (if x4 = x2 then (if inb x4 30 then nm (up M 12 x4.toNatClampNeg 0) fun M37 => f_X12_leastStep_l28 N x1 x2 x3 n M37 (x4 + 1) else none) else (if inb x4 30 then nm (up M 12 x4.toNatClampNeg 999999) fun M35 => f_X12_leastStep_l28 N x1 x2 x3 n M35 (x4 + 1) else none))
def f_X12_leastStep (N : Nat) (M : Mem) (x1 : Int32) (x2 : Int32) (x3 : Int32) : Option (Int32 × Mem) :=
  (f_X12_isStone M x1).bind fun r1 => if r1 = 0 then (some ((-1), M)) else ((f_X12_isStone M x2).bind fun r3 => if r3 = 0 then (some ((-1), M)) else ((f_X12_isMonth x3).bind fun r5 => if r5 = 0 then (some ((-1), M)) else (f_X12_leastStep_l28 N x1 x2 x3 N M 0)))
def f_X12_isPlace (M : Mem) (x1 : Int32) : Option (Int32) :=
  (f_X12_isStone M x1).bind fun r1 => if r1 = 0 then (some 0) else (if ¬ (M 0 6) = 0 then if ((M 0 5) - 1) ≤ (x1 / (M 0 6)) then (some 0) else (if ((M 0 6) - 1) ≤ (rem32 x1 (M 0 6)) then (some 0) else (some 1)) else none)
def f_X12_wedgesOf (M : Mem) (x1 : Int32) (x2 : Int32) : Option (Int32) :=
  (f_X12_heightOf M x1 x2).bind fun r1 => (f_X12_heightOf M (x1 + 1) x2).bind fun r2 => (f_X12_heightOf M (x1 + (M 0 6)) x2).bind fun r3 => (f_X12_heightOf M ((x1 + (M 0 6)) + 1) x2).bind fun r4 => if r1 ≤ r2 then (if r3 ≤ r2 then (if r4 ≤ r2 then (some (((((4 * r2) - r1) - r2) - r3) - r4)) else (some (((((4 * r4) - r1) - r2) - r3) - r4))) else (if r4 ≤ r3 then (some (((((4 * r3) - r1) - r2) - r3) - r4)) else (some (((((4 * r4) - r1) - r2) - r3) - r4)))) else (if r3 ≤ r1 then (if r4 ≤ r1 then (some (((((4 * r1) - r1) - r2) - r3) - r4)) else (some (((((4 * r4) - r1) - r2) - r3) - r4))) else (if r4 ≤ r3 then (some (((((4 * r3) - r1) - r2) - r3) - r4)) else (some (((((4 * r4) - r1) - r2) - r3) - r4))))
def f_X12_wedges (M : Mem) (x1 : Int32) (x2 : Int32) : Option (Int32) :=
  (f_X12_isPlace M x1).bind fun r1 => if r1 = 0 then (some (-1)) else ((f_X12_isMonth x2).bind fun r3 => if r3 = 0 then (some (-1)) else ((f_X12_wedgesOf M x1 x2).bind fun r5 => some r5))
def f_X12_best_l36 (N : Nat) (M : Mem) (x1 : Int32) (x2 : Int32) : Nat → Int32 → Int32 → Option (Int32)
  | 0, _, _ => none
  | n + 1, x3, x4 => (f_X12_all M).bind fun r7 => if r7 ≤ x4 then (if x2 = 0 then (some x3) else ((f_X12_wedgesOf M x3 x1).bind fun r10 => some r10)) else ((f_X12_isPlace M x4).bind fun r11 => if r11 = 0 then (f_X12_best_l36 N M x1 x2 n x3 (x4 + 1)) else ((f_X12_wedgesOf M x4 x1).bind fun r13 => (f_X12_wedgesOf M x3 x1).bind fun r14 => if r14 ≤ r13 then (f_X12_best_l36 N M x1 x2 n x3 (x4 + 1)) else (f_X12_best_l36 N M x1 x2 n x4 (x4 + 1))))
def f_X12_best (N : Nat) (M : Mem) (x1 : Int32) (x2 : Int32) : Option (Int32) :=
  (f_X12_isMonth x1).bind fun r1 => if r1 = 0 then (some (-1)) else ((f_X12_within x2 0 1).bind fun r3 => if r3 = 0 then (some (-2)) else ((f_X12_all M).bind fun r5 => if r5 = 0 then (some (-3)) else (f_X12_best_l36 N M x1 x2 N 0 1)))
def f_X12_areApart (M : Mem) (x1 : Int32) (x2 : Int32) : Option (Int32) :=
  if ¬ (M 0 6) = 0 then (f_X12_size ((x1 / (M 0 6)) - (x2 / (M 0 6)))).bind fun r2 => if 1 < r2 then (some 1) else ((f_X12_size ((rem32 x1 (M 0 6)) - (rem32 x2 (M 0 6)))).bind fun r4 => if r4 ≤ 1 then (some 0) else (some 1)) else none
def f_X12_two_l60 (kc : Int32 → Int32 → Int32 → Option (Int32)) (N : Nat) (M : Mem) (x1 : Int32) (x6 : Int32) : Nat → Int32 → Int32 → Int32 → Int32 → Option (Int32)
  | 0, _, _, _, _ => none
  | n + 1, x3, x4, x5, x7 => (f_X12_all M).bind fun r12 => if r12 ≤ x7 then (kc x3 x4 x5) else ((f_X12_isPlace M x6).bind fun r14 => if r14 = 0 then (kc x3 x4 x5) else ((f_X12_isPlace M x7).bind fun r16 => if r16 = 0 then (f_X12_two_l60 kc N M x1 x6 n x3 x4 x5 (x7 + 1)) else ((f_X12_areApart M x6 x7).bind fun r18 => if r18 = 0 then (f_X12_two_l60 kc N M x1 x6 n x3 x4 x5 (x7 + 1)) else ((f_X12_wedgesOf M x6 x1).bind fun r20 => (f_X12_wedgesOf M x7 x1).bind fun r21 => nm (r20 + r21) fun z22 => if x3 = (-9) then (f_X12_two_l60 kc N M x1 x6 n x6 x7 z22 (x7 + 1)) else (if x5 ≤ z22 then (f_X12_two_l60 kc N M x1 x6 n x3 x4 x5 (x7 + 1)) else (f_X12_two_l60 kc N M x1 x6 n x6 x7 z22 (x7 + 1)))))))
def f_X12_two_l45 (N : Nat) (M : Mem) (x1 : Int32) (x2 : Int32) : Nat → Int32 → Int32 → Int32 → Int32 → Option (Int32)
  | 0, _, _, _, _ => none
  | n + 1, x3, x4, x5, x6 => (f_X12_all M).bind fun r7 => if r7 ≤ x6 then (if x2 = 0 then (some x3) else (if x2 = 1 then (some x4) else (some x5))) else (nm (x6 + 1) fun z11 => f_X12_two_l60 (fun y3_25 y4_25 y5_25 => f_X12_two_l45 N M x1 x2 n y3_25 y4_25 y5_25 (x6 + 1)) N M x1 x6 N x3 x4 x5 z11)
def f_X12_two (N : Nat) (M : Mem) (x1 : Int32) (x2 : Int32) : Option (Int32) :=
  (f_X12_isMonth x1).bind fun r1 => if r1 = 0 then (some (-1)) else ((f_X12_within x2 0 2).bind fun r3 => if r3 = 0 then (some (-2)) else ((f_X12_all M).bind fun r5 => if r5 = 0 then (some (-3)) else (f_X12_two_l45 N M x1 x2 N (-9) (-9) (-9) 0)))
def f_X12_apartOf_l34 (kc : Int32 → Int32 → Option (Int32)) (N : Nat) (M : Mem) (x2 : Int32) (x3 : Int32) (x6 : Int32) : Nat → Int32 → Int32 → Int32 → Option (Int32)
  | 0, _, _, _ => none
  | n + 1, x4, x5, x7 => if ¬ (M 0 6) = 0 then if (rem32 x2 (M 0 6)) < x7 then (kc x4 x5) else ((f_X12_heightOf M (((M 0 6) * x6) + x7) x3).bind fun r8 => if x4 ≤ r8 then (if r8 ≤ x5 then (f_X12_apartOf_l34 kc N M x2 x3 x6 n x4 x5 (x7 + 1)) else (f_X12_apartOf_l34 kc N M x2 x3 x6 n x4 r8 (x7 + 1))) else (if r8 ≤ x5 then (f_X12_apartOf_l34 kc N M x2 x3 x6 n r8 x5 (x7 + 1)) else (f_X12_apartOf_l34 kc N M x2 x3 x6 n r8 r8 (x7 + 1)))) else none
def f_X12_apartOf_l15 (N : Nat) (M : Mem) (x1 : Int32) (x2 : Int32) (x3 : Int32) : Nat → Int32 → Int32 → Int32 → Option (Int32)
  | 0, _, _, _ => none
  | n + 1, x4, x5, x6 => if ¬ (M 0 6) = 0 then if (x2 / (M 0 6)) < x6 then (some (x5 - x4)) else (nm (rem32 x1 (M 0 6)) fun z5 => f_X12_apartOf_l34 (fun y4_12 y5_12 => f_X12_apartOf_l15 N M x1 x2 x3 n y4_12 y5_12 (x6 + 1)) N M x2 x3 x6 N x4 x5 z5) else none
def f_X12_apartOf (N : Nat) (M : Mem) (x1 : Int32) (x2 : Int32) (x3 : Int32) : Option (Int32) :=
  if ¬ (M 0 6) = 0 then nm (x1 / (M 0 6)) fun z2 => f_X12_apartOf_l15 N M x1 x2 x3 N 999999 0 z2 else none
def f_X12_oval_l67 (kc : Int32 → Int32 → Int32 → Option (Int32)) (N : Nat) (M : Mem) (x1 : Int32) (x2 : Int32) (x7 : Int32) : Nat → Int32 → Int32 → Int32 → Int32 → Option (Int32)
  | 0, _, _, _, _ => none
  | n + 1, x4, x5, x6, x8 => (f_X12_all M).bind fun r13 => if r13 ≤ x8 then (kc x4 x5 x6) else (if ¬ (M 0 6) = 0 then nm ((((x8 / (M 0 6)) - (x7 / (M 0 6))) + 1) * (((rem32 x8 (M 0 6)) - (rem32 x7 (M 0 6))) + 1)) fun z16 => if (rem32 x8 (M 0 6)) < (rem32 x7 (M 0 6)) then (f_X12_oval_l67 kc N M x1 x2 x7 n x4 x5 x6 (x8 + 1)) else (if z16 ≤ x4 then (f_X12_oval_l67 kc N M x1 x2 x7 n x4 x5 x6 (x8 + 1)) else ((f_X12_apartOf N M x7 x8 x1).bind fun r19 => if x2 < r19 then (f_X12_oval_l67 kc N M x1 x2 x7 n x4 x5 x6 (x8 + 1)) else (f_X12_oval_l67 kc N M x1 x2 x7 n z16 x7 x8 (x8 + 1)))) else none)
def f_X12_oval_l54 (N : Nat) (M : Mem) (x1 : Int32) (x2 : Int32) (x3 : Int32) : Nat → Int32 → Int32 → Int32 → Int32 → Option (Int32)
  | 0, _, _, _, _ => none
  | n + 1, x4, x5, x6, x7 => (f_X12_all M).bind fun r9 => if r9 ≤ x7 then (if x3 = 0 then (some x4) else (if x3 = 1 then (some x5) else (some x6))) else (f_X12_oval_l67 (fun y4_21 y5_21 y6_21 => f_X12_oval_l54 N M x1 x2 x3 n y4_21 y5_21 y6_21 (x7 + 1)) N M x1 x2 x7 N x4 x5 x6 x7)
def f_X12_oval (N : Nat) (M : Mem) (x1 : Int32) (x2 : Int32) (x3 : Int32) : Option (Int32) :=
  (f_X12_isMonth x1).bind fun r1 => if r1 = 0 then (some (-1)) else ((f_X12_within x2 0 999).bind fun r3 => if r3 = 0 then (some (-2)) else ((f_X12_within x3 0 2).bind fun r5 => if r5 = 0 then (some (-2)) else ((f_X12_all M).bind fun r7 => if r7 = 0 then (some (-3)) else (f_X12_oval_l54 N M x1 x2 x3 N 0 0 0 0))))
def f_X12_isEdge (M : Mem) (x1 : Int32) : Option (Int32) :=
  if ¬ (M 0 6) = 0 then if (x1 / (M 0 6)) = 0 then (some 1) else (if (x1 / (M 0 6)) = ((M 0 5) - 1) then (some 1) else (if (rem32 x1 (M 0 6)) = 0 then (some 1) else (if (rem32 x1 (M 0 6)) = ((M 0 6) - 1) then (some 1) else (some 0)))) else none
def f_X12_findWater_l64 (kc : Mem → Option (Mem)) (N : Nat) (x1 : Int32) (x3 : Int32) : Nat → Mem → Int32 → Option (Mem)
  | 0, _, _ => none
  | n + 1, M, x4 => if 4 ≤ x4 then (kc M) else ((f_X12_beside M x3 x4).bind fun r8 => if r8 = (-9) then (f_X12_findWater_l64 kc N x1 x3 n M (x4 + 1)) else ((f_X12_isEdge M x3).bind fun r10 => if r10 = 0 then (if inb r8 30 then (f_X12_heightOf M x3 x1).bind fun r13 => if (M 12 r8.toNatClampNeg) ≤ r13 then ((f_X12_heightOf M x3 x1).bind fun r15 => if inb x3 30 then if (M 12 x3.toNatClampNeg) ≤ r15 then (nm (up M 12 x3.toNatClampNeg (M 12 x3.toNatClampNeg)) fun M18 => f_X12_findWater_l64 kc N x1 x3 n M18 (x4 + 1)) else (nm (up M 12 x3.toNatClampNeg r15) fun M19 => f_X12_findWater_l64 kc N x1 x3 n M19 (x4 + 1)) else none) else (nm (M 12 r8.toNatClampNeg) fun z20 => if inb x3 30 then if (M 12 x3.toNatClampNeg) ≤ z20 then (nm (up M 12 x3.toNatClampNeg (M 12 x3.toNatClampNeg)) fun M23 => f_X12_findWater_l64 kc N x1 x3 n M23 (x4 + 1)) else (nm (up M 12 x3.toNatClampNeg z20) fun M24 => f_X12_findWater_l64 kc N x1 x3 n M24 (x4 + 1)) else none) else none) else (f_X12_findWater_l64 kc N x1 x3 n M (x4 + 1))))
def f_X12_findWater_l53 (kc : Mem → Option (Mem)) (N : Nat) (x1 : Int32) : Nat → Mem → Int32 → Option (Mem)
  | 0, _, _ => none
  | n + 1, M, x3 => (f_X12_all M).bind fun r5 => if r5 ≤ x3 then (kc M) else (f_X12_findWater_l64 (fun M25 => f_X12_findWater_l53 kc N x1 n M25 (x3 + 1)) N x1 x3 N M 0)
def f_X12_findWater_l43 (N : Nat) (x1 : Int32) : Nat → Mem → Int32 → Option (Mem)
  | 0, _, _ => none
  | n + 1, M, x2 => (f_X12_all M).bind fun r3 => if r3 ≤ x2 then (some M) else (f_X12_findWater_l53 (fun M26 => f_X12_findWater_l43 N x1 n M26 (x2 + 1)) N x1 N M 0)
def f_X12_findWater_l2 (N : Nat) (x1 : Int32) : Nat → Mem → Int32 → Option (Mem)
  | 0, _, _ => none
  | n + 1, M, x2 => (f_X12_all M).bind fun r1 => if r1 ≤ x2 then (f_X12_findWater_l43 N x1 N M 0) else ((f_X12_isEdge M x2).bind fun r27 => if r27 = 0 then (if inb x2 30 then nm (up M 12 x2.toNatClampNeg 999999) fun M30 => f_X12_findWater_l2 N x1 n M30 (x2 + 1) else none) else ((f_X12_heightOf M x2 x1).bind fun r31 => if inb x2 30 then nm (up M 12 x2.toNatClampNeg r31) fun M33 => f_X12_findWater_l2 N x1 n M33 (x2 + 1) else none))
def f_X12_findWater (N : Nat) (M : Mem) (x1 : Int32) : Option (Mem) :=
  f_X12_findWater_l2 N x1 N M 0
def f_X12_depth (N : Nat) (M : Mem) (x1 : Int32) (x2 : Int32) : Option (Int32 × Mem) :=
  (f_X12_isStone M x1).bind fun r1 => if r1 = 0 then (some ((-1), M)) else ((f_X12_isMonth x2).bind fun r3 => if r3 = 0 then (some ((-1), M)) else ((f_X12_findWater N M x2).bind fun M5 => if inb x1 30 then (f_X12_heightOf M5 x1 x2).bind fun r7 => some (((M5 12 x1.toNatClampNeg) - r7), M5) else none))
def f_X12_poolOf_l9 (N : Nat) (M : Mem) (x1 : Int32) : Nat → Int32 → Int32 → Option (Int32 × Mem)
  | 0, _, _ => none
  | n + 1, x2, x3 => (f_X12_all M).bind fun r2 => if r2 ≤ x3 then (some (x2, M)) else (if inb x3 30 then (f_X12_heightOf M x3 x1).bind fun r5 => nm (x2 + ((M 12 x3.toNatClampNeg) - r5)) fun z6 => f_X12_poolOf_l9 N M x1 n z6 (x3 + 1) else none)
def f_X12_poolOf (N : Nat) (M : Mem) (x1 : Int32) : Option (Int32 × Mem) :=
  (f_X12_findWater N M x1).bind fun M1 => f_X12_poolOf_l9 N M1 x1 N 0 0
def f_X12_pool (N : Nat) (M : Mem) (x1 : Int32) : Option (Int32 × Mem) :=
  (f_X12_isMonth x1).bind fun r1 => if r1 = 0 then (some ((-1), M)) else ((f_X12_all M).bind fun r3 => if r3 = 0 then (some ((-3), M)) else ((f_X12_poolOf N M x1).bind fun q5 => some (q5.1, q5.2)))
def f_X12_drain_l52 (N : Nat) (x1 : Int32) (x2 : Int32) (x3 : Int32) : Nat → Mem → Int32 → Int32 → Int32 → Option (Int32 × Mem)
  | 0, _, _, _, _ => none
  | n + 1, M, x4, x5, x6 => (f_X12_all M).bind fun r9 => if r9 ≤ x6 then (if x3 = 0 then (some (x4, M)) else (some (x5, M))) else (if inb x6 30 then nm (up M 6 x6.toNatClampNeg ((M 6 x6.toNatClampNeg) + x2)) fun M13 => (f_X12_poolOf N M13 x1).bind fun q14 => nm (up q14.2 6 x6.toNatClampNeg ((q14.2 6 x6.toNatClampNeg) - x2)) fun M15 => if x4 = (-9) then (f_X12_drain_l52 N x1 x2 x3 n M15 x6 q14.1 (x6 + 1)) else (if x5 ≤ q14.1 then (f_X12_drain_l52 N x1 x2 x3 n M15 x4 x5 (x6 + 1)) else (f_X12_drain_l52 N x1 x2 x3 n M15 x6 q14.1 (x6 + 1))) else none)
def f_X12_drain (N : Nat) (M : Mem) (x1 : Int32) (x2 : Int32) (x3 : Int32) : Option (Int32 × Mem) :=
  (f_X12_isMonth x1).bind fun r1 => if r1 = 0 then (some ((-1), M)) else ((f_X12_within x2 1 99).bind fun r3 => if r3 = 0 then (some ((-2), M)) else ((f_X12_within x3 0 1).bind fun r5 => if r5 = 0 then (some ((-2), M)) else ((f_X12_all M).bind fun r7 => if r7 = 0 then (some ((-3), M)) else (f_X12_drain_l52 N x1 x2 x3 N M (-9) (-9) 0))))
def f_X12_areBeside_l2 (N : Nat) (M : Mem) (x1 : Int32) (x2 : Int32) : Nat → Int32 → Option (Int32)
  | 0, _ => none
  | n + 1, x3 => if 4 ≤ x3 then (some 0) else ((f_X12_beside M x1 x3).bind fun r2 => if r2 = x2 then (some 1) else (f_X12_areBeside_l2 N M x1 x2 n (x3 + 1)))
def f_X12_areBeside (N : Nat) (M : Mem) (x1 : Int32) (x2 : Int32) : Option (Int32) :=
  f_X12_areBeside_l2 N M x1 x2 N 0
def f_X12_statue_l47 (N : Nat) (M : Mem) (x1 : Int32) (x2 : Int32) (x3 : Int32) : Nat → Int32 → Option (Int32)
  | 0, _ => none
  | n + 1, x4 => if 12 ≤ x4 then (some (-9)) else ((f_X12_isStep N M x1 x2 x4 x4 x3).bind fun r10 => if r10 = 0 then (some x4) else (f_X12_statue_l47 N M x1 x2 x3 n (x4 + 1)))
def f_X12_statue (N : Nat) (M : Mem) (x1 : Int32) (x2 : Int32) (x3 : Int32) : Option (Int32) :=
  (f_X12_isStone M x1).bind fun r1 => if r1 = 0 then (some (-1)) else ((f_X12_isStone M x2).bind fun r3 => if r3 = 0 then (some (-1)) else ((f_X12_within x3 0 999).bind fun r5 => if r5 = 0 then (some (-2)) else ((f_X12_areBeside N M x1 x2).bind fun r7 => if r7 = 0 then (some (-3)) else (f_X12_statue_l47 N M x1 x2 x3 N 0))))
def f_X12_apartNow_l16 (N : Nat) (M : Mem) : Nat → Int32 → Int32 → Int32 → Option (Int32)
  | 0, _, _, _ => none
  | n + 1, x1, x2, x3 => (f_X12_all M).bind fun r3 => if r3 ≤ x3 then (some (x2 - x1)) else (if inb x3 30 then if x1 ≤ (M 13 x3.toNatClampNeg) then (if (M 13 x3.toNatClampNeg) ≤ x2 then (f_X12_apartNow_l16 N M n x1 x2 (x3 + 1)) else (nm (M 13 x3.toNatClampNeg) fun z8 => f_X12_apartNow_l16 N M n x1 z8 (x3 + 1))) else (nm (M 13 x3.toNatClampNeg) fun z9 => if (M 13 x3.toNatClampNeg) ≤ x2 then (f_X12_apartNow_l16 N M n z9 x2 (x3 + 1)) else (nm (M 13 x3.toNatClampNeg) fun z11 => f_X12_apartNow_l16 N M n z9 z11 (x3 + 1))) else none)
def f_X12_apartNow (N : Nat) (M : Mem) : Option (Int32) :=
  nm (M 13 (0 : Int32).toNatClampNeg) fun z1 => nm (M 13 (0 : Int32).toNatClampNeg) fun z2 => f_X12_apartNow_l16 N M N z1 z2 1
def f_X12_goNight_l125 (N : Nat) : Nat → Mem → Int32 → Option (Mem)
  | 0, _, _ => none
  | n + 1, M, x2 => (f_X12_all M).bind fun r4 => if r4 ≤ x2 then (some M) else (if inb x2 30 then if (M 14 x2.toNatClampNeg) = 0 then (nm (up M 13 x2.toNatClampNeg ((M 13 x2.toNatClampNeg) + 0)) fun M8 => f_X12_goNight_l125 N n M8 (x2 + 1)) else (nm (up M 13 x2.toNatClampNeg ((M 13 x2.toNatClampNeg) + 1)) fun M9 => f_X12_goNight_l125 N n M9 (x2 + 1)) else none)
def f_X12_goNight_l44 (kc : Int32 → Option (Mem)) (N : Nat) (M : Mem) : Nat → Int32 → Int32 → Option (Mem)
  | 0, _, _ => none
  | n + 1, x3, x4 => (f_X12_all M).bind fun r12 => if r12 ≤ x4 then (kc x3) else (if inb x4 30 then if (M 14 x4.toNatClampNeg) = 0 then (if x3 = (-9) then (f_X12_goNight_l44 kc N M n x4 (x4 + 1)) else (if inb x3 30 then if (M 13 x3.toNatClampNeg) ≤ (M 13 x4.toNatClampNeg) then (f_X12_goNight_l44 kc N M n x3 (x4 + 1)) else (f_X12_goNight_l44 kc N M n x4 (x4 + 1)) else none)) else (f_X12_goNight_l44 kc N M n x3 (x4 + 1)) else none)
def f_X12_goNight_l25 (N : Nat) (x1 : Int32) : Nat → Mem → Int32 → Option (Mem)
  | 0, _, _ => none
  | n + 1, M, x2 => if x1 ≤ x2 then (f_X12_goNight_l125 N N M 0) else ((f_X12_all M).bind fun r10 => if r10 ≤ x2 then (f_X12_goNight_l125 N N M 0) else (f_X12_goNight_l44 (fun y3_19 => if inb y3_19 30 then nm (up M 14 y3_19.toNatClampNeg 1) fun M21 => f_X12_goNight_l25 N x1 n M21 (x2 + 1) else none) N M N (-9) 0))
def f_X12_goNight_l2 (N : Nat) (x1 : Int32) : Nat → Mem → Int32 → Option (Mem)
  | 0, _, _ => none
  | n + 1, M, x2 => (f_X12_all M).bind fun r1 => if r1 ≤ x2 then (f_X12_goNight_l25 N x1 N M 0) else (if inb x2 30 then nm (up M 14 x2.toNatClampNeg 0) fun M23 => f_X12_goNight_l2 N x1 n M23 (x2 + 1) else none)
def f_X12_goNight (N : Nat) (M : Mem) (x1 : Int32) : Option (Mem) :=
  f_X12_goNight_l2 N x1 N M 0
def f_X12_nights_l78 (N : Nat) (x2 : Int32) (x3 : Int32) : Nat → Mem → Int32 → Option (Int32 × Mem)
  | 0, _, _ => none
  | n + 1, M, x4 => if 500 < x4 then (some ((-9), M)) else ((f_X12_apartNow N M).bind fun r12 => if x3 < r12 then ((f_X12_goNight N M x2).bind fun M14 => f_X12_nights_l78 N x2 x3 n M14 (x4 + 1)) else (some (x4, M)))
def f_X12_nights_l46 (N : Nat) (x1 : Int32) (x2 : Int32) (x3 : Int32) : Nat → Mem → Int32 → Option (Int32 × Mem)
  | 0, _, _ => none
  | n + 1, M, x4 => (f_X12_all M).bind fun r9 => if r9 ≤ x4 then (f_X12_nights_l78 N x2 x3 N M 0) else ((f_X12_heightOf M x4 x1).bind fun r15 => if inb x4 30 then nm (up M 13 x4.toNatClampNeg r15) fun M17 => f_X12_nights_l46 N x1 x2 x3 n M17 (x4 + 1) else none)
def f_X12_nights (N : Nat) (M : Mem) (x1 : Int32) (x2 : Int32) (x3 : Int32) : Option (Int32 × Mem) :=
  (f_X12_isMonth x1).bind fun r1 => if r1 = 0 then (some ((-1), M)) else ((f_X12_within x2 1 9).bind fun r3 => if r3 = 0 then (some ((-2), M)) else ((f_X12_within x3 0 999).bind fun r5 => if r5 = 0 then (some ((-2), M)) else ((f_X12_all M).bind fun r7 => if r7 = 0 then (some ((-3), M)) else (f_X12_nights_l46 N x1 x2 x3 N M 0))))
def f_X12_reading (M : Mem) (x1 : Int32) (x2 : Int32) (x3 : Int32) : Option (Int32 × Mem) :=
  (f_X12_isStone M x1).bind fun r1 => if r1 = 0 then (some ((-1), M)) else ((f_X12_isMonth x2).bind fun r3 => if r3 = 0 then (some ((-1), M)) else ((f_X12_within x3 0 999).bind fun r5 => if r5 = 0 then (some ((-2), M)) else (if (M 0 21) = 10 then (some ((-4), M)) else (if inb (M 0 21) 10 then nm (up M 15 (M 0 21).toNatClampNeg x1) fun M9 => if inb (M9 0 21) 10 then nm (up M9 16 (M9 0 21).toNatClampNeg x2) fun M11 => if inb (M11 0 21) 10 then nm (up M11 17 (M11 0 21).toNatClampNeg x3) fun M13 => nm (up M13 0 21 ((M13 0 21) + 1)) fun M14 => some (((M14 0 21) - 1), M14) else none else none else none))))
def f_X12_back (M : Mem) (x1 : Int32) : Option (Int32 × Mem) :=
  (f_X12_within x1 0 (M 0 21)).bind fun r1 => if r1 = 0 then (some ((-2), M)) else (nm (up M 0 21 ((M 0 21) - x1)) fun M3 => some ((M3 0 21), M3))
def f_X12_isKind_l2 (N : Nat) (M : Mem) (x1 : Int32) (x2 : Int32) : Nat → Int32 → Option (Int32)
  | 0, _ => none
  | n + 1, x3 => if (M 0 21) ≤ x3 then (some 1) else (if inb x3 10 then if (M 15 x3.toNatClampNeg) = x1 then ((f_X12_heightAs M x1 x2 (M 16 x3.toNatClampNeg)).bind fun r4 => if r4 = (M 17 x3.toNatClampNeg) then (f_X12_isKind_l2 N M x1 x2 n (x3 + 1)) else (some 0)) else (f_X12_isKind_l2 N M x1 x2 n (x3 + 1)) else none)
def f_X12_isKind (N : Nat) (M : Mem) (x1 : Int32) (x2 : Int32) : Option (Int32) :=
  f_X12_isKind_l2 N M x1 x2 N 0
def f_X12_kinds_l14 (N : Nat) (M : Mem) (x1 : Int32) : Nat → Int32 → Int32 → Option (Int32)
  | 0, _, _ => none
  | n + 1, x2, x3 => if 3 ≤ x3 then (some x2) else ((f_X12_isKind N M x1 x3).bind fun r4 => if r4 = 0 then (nm (x2 ||| 0) fun z6 => f_X12_kinds_l14 N M x1 n z6 (x3 + 1)) else (nm (x2 ||| ((1 : Int32) <<< (x3 &&& 31))) fun z7 => f_X12_kinds_l14 N M x1 n z7 (x3 + 1)))
def f_X12_kinds (N : Nat) (M : Mem) (x1 : Int32) : Option (Int32) :=
  (f_X12_isStone M x1).bind fun r1 => if r1 = 0 then (some (-1)) else (f_X12_kinds_l14 N M x1 N 0 0)
def f_X12_sheet_l57 (N : Nat) (x1 : Int32) : Nat → Mem → Int32 → Option (Int32 × Mem)
  | 0, _, _ => none
  | n + 1, M, x4 => if 80 ≤ x4 then (some (1, M)) else (if inb ((80 * x1) + x4) 320 then nm (up M 3 ((80 * x1) + x4).toNatClampNeg 0) fun M13 => f_X12_sheet_l57 N x1 n M13 (x4 + 1) else none)
def f_X12_sheet (N : Nat) (M : Mem) (x1 : Int32) (x2 : Int32) (x3 : Int32) : Option (Int32 × Mem) :=
  nm (up M 0 0 0) fun M1 => (f_X12_isSheet x1).bind fun r2 => if r2 = 0 then (some ((-1), M1)) else ((f_X12_isSort x2).bind fun r4 => if r4 = 0 then (some ((-2), M1)) else (if x3 ≤ 80 then (if 0 ≤ x3 then (if inb x1 4 then nm (up M1 1 x1.toNatClampNeg x2) fun M9 => nm (up M9 2 x1.toNatClampNeg x3) fun M10 => f_X12_sheet_l57 N x1 N M10 0 else none) else ((f_X12_fails M1 4).bind fun q14 => some (q14.1, q14.2))) else (some ((-2), M1))))
def f_X12_lose (M : Mem) (x1 : Int32) : Option (Int32 × Mem) :=
  (f_X12_isSheet x1).bind fun r1 => if r1 = 0 then (some ((-1), M)) else (if inb x1 4 then if (M 1 x1.toNatClampNeg) = (-9) then (nm (up M 1 x1.toNatClampNeg (-9)) fun M6 => some (0, M6)) else (nm (up M 1 x1.toNatClampNeg (-9)) fun M5 => some (1, M5)) else none)
def f_X12_put (M : Mem) (x1 : Int32) (x2 : Int32) (x3 : Int32) : Option (Int32 × Mem) :=
  nm (up M 0 0 0) fun M1 => (f_X12_isSheet x1).bind fun r2 => if r2 = 0 then (some ((-1), M1)) else (if inb x1 4 then if (M1 1 x1.toNatClampNeg) = (-9) then ((f_X12_fails M1 1).bind fun q17 => some (q17.1, q17.2)) else ((f_X12_within x2 0 ((M1 2 x1.toNatClampNeg) - 1)).bind fun r6 => if r6 = 0 then ((f_X12_fails M1 3).bind fun q16 => some (q16.1, q16.2)) else (if (M1 1 x1.toNatClampNeg) = 0 then (if inb ((80 * x1) + x2) 320 then nm (up M1 3 ((80 * x1) + x2).toNatClampNeg (x3.toInt8.toInt32)) fun M15 => some (1, M15) else none) else (if (M1 1 x1.toNatClampNeg) = 1 then (if inb ((80 * x1) + x2) 320 then nm (up M1 3 ((80 * x1) + x2).toNatClampNeg (x3.toInt16.toInt32)) fun M13 => some (1, M13) else none) else (if inb ((80 * x1) + x2) 320 then nm (up M1 3 ((80 * x1) + x2).toNatClampNeg x3) fun M11 => some (1, M11) else none)))) else none)
def f_X12_cell (M : Mem) (x1 : Int32) (x2 : Int32) (x3 : Int32) : Option (Int64 × Mem) :=
  nm (up M 0 0 0) fun M1 => (f_X12_isSheet x1).bind fun r2 => if r2 = 0 then (some ((-9223372036854775808), M1)) else ((f_X12_isSort x3).bind fun r4 => if r4 = 0 then (some ((-9223372036854775808), M1)) else (if inb x1 4 then if (M1 1 x1.toNatClampNeg) = (-9) then ((f_X12_lost M1 1).bind fun q8 => some (q8.1, q8.2)) else (if (M1 1 x1.toNatClampNeg) = x3 then ((f_X12_within x2 0 ((M1 2 x1.toNatClampNeg) - 1)).bind fun r10 => if r10 = 0 then ((f_X12_lost M1 3).bind fun q13 => some (q13.1, q13.2)) else (if inb ((80 * x1) + x2) 320 then some ((M1 3 ((80 * x1) + x2).toNatClampNeg).toInt64, M1) else none)) else ((f_X12_lost M1 2).bind fun q14 => some (q14.1, q14.2))) else none))
def f_X12_copy_l166 (N : Nat) (x1 : Int32) (x2 : Int32) (x3 : Int32) (x4 : Int32) (x5 : Int32) (x7 : Int32) : Nat → Mem → Int32 → Option (Int32 × Mem)
  | 0, _, _ => none
  | n + 1, M, x8 => if x5 ≤ x8 then (some (x5, M)) else (if x7 = 0 then (if inb (((80 * x1) + x2) + x8) 320 then if inb (((80 * x3) + x4) + x8) 320 then nm (up M 3 (((80 * x3) + x4) + x8).toNatClampNeg (M 3 (((80 * x1) + x2) + x8).toNatClampNeg)) fun M30 => f_X12_copy_l166 N x1 x2 x3 x4 x5 x7 n M30 (x8 + 1) else none else none) else (nm ((x5 - 1) - x8) fun z31 => if inb (((80 * x1) + x2) + z31) 320 then if inb (((80 * x3) + x4) + z31) 320 then nm (up M 3 (((80 * x3) + x4) + z31).toNatClampNeg (M 3 (((80 * x1) + x2) + z31).toNatClampNeg)) fun M34 => f_X12_copy_l166 N x1 x2 x3 x4 x5 x7 n M34 (x8 + 1) else none else none))
def f_X12_copy (N : Nat) (M : Mem) (x1 : Int32) (x2 : Int32) (x3 : Int32) (x4 : Int32) (x5 : Int32) : Option (Int32 × Mem) :=
  nm (up M 0 0 0) fun M1 => (f_X12_isSheet x1).bind fun r2 => if r2 = 0 then (some ((-1), M1)) else ((f_X12_isSheet x3).bind fun r4 => if r4 = 0 then (some ((-1), M1)) else (if inb x1 4 then if (M1 1 x1.toNatClampNeg) = (-9) then ((f_X12_fails M1 1).bind fun q8 => some (q8.1, q8.2)) else (if inb x3 4 then if (M1 1 x3.toNatClampNeg) = (-9) then ((f_X12_fails M1 1).bind fun q37 => some (q37.1, q37.2)) else (if (M1 1 x1.toNatClampNeg) = (M1 1 x3.toNatClampNeg) then (if x2 < 0 then ((f_X12_fails M1 3).bind fun q13 => some (q13.1, q13.2)) else (if x4 < 0 then ((f_X12_fails M1 3).bind fun q15 => some (q15.1, q15.2)) else (if x5 < 0 then ((f_X12_fails M1 3).bind fun q17 => some (q17.1, q17.2)) else (if (M1 2 x1.toNatClampNeg) < x2 then ((f_X12_fails M1 3).bind fun q19 => some (q19.1, q19.2)) else (if (M1 2 x3.toNatClampNeg) < x4 then ((f_X12_fails M1 3).bind fun q21 => some (q21.1, q21.2)) else (if ((M1 2 x1.toNatClampNeg) - x2) < x5 then ((f_X12_fails M1 3).bind fun q23 => some (q23.1, q23.2)) else (if x5 ≤ ((M1 2 x3.toNatClampNeg) - x4) then (if x4 ≤ x2 then (f_X12_copy_l166 N x1 x2 x3 x4 x5 0 N M1 0) else (f_X12_copy_l166 N x1 x2 x3 x4 x5 1 N M1 0)) else ((f_X12_fails M1 3).bind fun q35 => some (q35.1, q35.2))))))))) else ((f_X12_fails M1 2).bind fun q36 => some (q36.1, q36.2))) else none) else none))
def f_X12_begins (M : Mem) (x1 : Int32) : Option (Mem) :=
  nm (up M 0 1 ((31 * (M 0 1)) + x1)) fun M1 => some M1
def f_X12_tell (M : Mem) (x1 : Int32) : Option (Int32 × Mem) :=
  (f_X12_isStone M x1).bind fun r1 => if r1 = 0 then (some ((-1), M)) else (if inb x1 30 then nm (M 5 x1.toNatClampNeg) fun z4 => nm (M 4 x1.toNatClampNeg) fun z5 => if z5 = 1 then ((f_X12_begins M 2).bind fun M7 => (f_X12_begins M7 1).bind fun M8 => some ((z4 + 100), M8)) else (if z5 = 2 then ((f_X12_begins M 3).bind fun M10 => (f_X12_begins M10 2).bind fun M11 => (f_X12_begins M11 1).bind fun M12 => (f_X12_begins M12 1).bind fun M13 => some (((2 * z4) + 100), M13)) else ((f_X12_begins M 1).bind fun M14 => some (z4, M14))) else none)
def f_X12_tread (M : Mem) (x1 : Int32) : Option (Int32 × Mem) :=
  (f_X12_isStone M x1).bind fun r1 => if r1 = 0 then (some ((-1), M)) else (if inb x1 30 then if (M 4 x1.toNatClampNeg) = 2 then ((f_X12_begins M 5).bind fun M7 => if (M7 4 x1.toNatClampNeg) = 2 then (some (50, M7)) else (some (x1, M7))) else ((f_X12_begins M 4).bind fun M5 => if (M5 4 x1.toNatClampNeg) = 2 then (some (50, M5)) else (some (x1, M5))) else none)
def f_X12_as (M : Mem) (x1 : Int32) (x2 : Int32) : Option (Int32 × Mem) :=
  nm (up M 0 0 0) fun M1 => (f_X12_isStone M1 x1).bind fun r2 => if r2 = 0 then (some ((-1), M1)) else ((f_X12_within x2 0 2).bind fun r4 => if r4 = 0 then (some ((-2), M1)) else (if inb x1 30 then if (M1 4 x1.toNatClampNeg) < x2 then ((f_X12_fails M1 2).bind fun q8 => some (q8.1, q8.2)) else (some (1, M1)) else none))
def f_X12_trace (M : Mem) : Option (Int32) :=
  some (M 0 1)
def f_X12_fault (M : Mem) : Option (Int32) :=
  some (M 0 0)
def f_X12_many (M : Mem) (x1 : Int32) : Option (Int32) :=
  if x1 = 0 then ((f_X12_all M).bind fun r4 => some r4) else (if x1 = 1 then (some (M 0 6)) else (if x1 = 2 then (some (M 0 21)) else (some (-2))))
