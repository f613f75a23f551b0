/-- fuel: more than any loop needs -/
def NN : Nat := 1000
/-- the square as numbers: q 0 0 high, q 0 1 wide; of stone c: q 1 c its kind, q 2 c its ground, q 3 c its lifting; of month m: q 4 m its wet, q 5 m its frost -/
def Bd (q : Nat → Nat → Nat) : Prop := ((q 0 0 = 0 ∧ q 0 1 = 0) ∨ (2 ≤ q 0 0 ∧ q 0 0 ≤ 5 ∧ 2 ≤ q 0 1 ∧ q 0 1 ≤ 6)) ∧ (∀ c, c < q 0 0 * q 0 1 → q 1 c ≤ 2 ∧ q 2 c ≤ 9 ∧ q 3 c ≤ 300) ∧ ∀ m, m < 12 → q 4 m ≤ 9 ∧ q 5 m ≤ 9
/-- the class's cells tell this square -/
def PC (M : Mem) (q : Nat → Nat → Nat) : Prop := M 2 8 = nI (q 0 0) ∧ M 2 9 = nI (q 0 1) ∧ (∀ c, c < q 0 0 * q 0 1 → M 21 c = nI (q 1 c) ∧ M 22 c = nI (q 2 c) ∧ M 23 c = nI (q 3 c) ∧ M 24 c = nI (c / q 0 1) ∧ M 25 c = nI (c % q 0 1)) ∧ ∀ m, m < 12 → M 26 m = nI (q 4 m) ∧ M 27 m = nI (q 5 m)
/-- the reference's cells tell this square -/
def PM (M : Mem) (q : Nat → Nat → Nat) : Prop := M 0 5 = nI (q 0 0) ∧ M 0 6 = nI (q 0 1) ∧ (∀ c, c < q 0 0 * q 0 1 → M 4 c = nI (q 1 c) ∧ M 5 c = nI (q 2 c) ∧ M 6 c = nI (q 3 c)) ∧ ∀ m, m < 12 → M 7 m = nI (q 4 m) ∧ M 8 m = nI (q 5 m)
/-- readings -/
def RS (Mc Mm : Mem) : Prop := ∃ n : Nat, n ≤ 10 ∧ Mc 7 4 = nI n ∧ Mm 0 21 = nI n ∧ ∀ i, i < n → Mc 38 i = Mm 15 i ∧ Mc 39 i = Mm 16 i ∧ Mc 40 i = Mm 17 i ∧ ∃ m : Nat, m < 12 ∧ Mm 16 i = nI m
/-- one sheet -/
def S1 (Mc Mm : Mem) (k : Nat) : Prop := (Mc (9 + k) 1 = -1 ∧ Mm 1 k = -9) ∨ ∃ so n : Nat, so ≤ 2 ∧ n ≤ 80 ∧ Mc (9 + k) 1 = nI so ∧ Mm 1 k = nI so ∧ Mc (9 + k) 2 = nI n ∧ Mm 2 k = nI n ∧ ∀ i, i < n → Mc (13 + k) i = Mm 3 (80 * k + i)
def SH (Mc Mm : Mem) : Prop := ∀ k, k < 4 → S1 Mc Mm k
/-- the two sides hold the same -/
def Sim (Mc Mm : Mem) : Prop := (∃ q : Nat → Nat → Nat, Bd q ∧ (∀ c, c < q 0 0 * q 0 1 → q 3 c ≤ 99) ∧ PC Mc q ∧ PM Mm q) ∧ Mc 0 8 = Mm 0 0 ∧ Mc 1 0 = Mm 0 1 ∧ RS Mc Mm ∧ SH Mc Mm
