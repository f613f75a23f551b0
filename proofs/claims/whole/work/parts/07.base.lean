abbrev Mem : Type := Nat → Nat → Int32
/-- one row changed -/
def upA (M : Mem) (k : Nat) (f : Nat → Int32) : Mem := fun c => if c = k then f else M c
/-- one number changed -/
def up (M : Mem) (k j : Nat) (v : Int32) : Mem := upA M k (upd (M k) j v)
abbrev mx (x y : Int32) : Int32 := if x < y then y else x
abbrev mn (x y : Int32) : Int32 := if y < x then y else x
abbrev ab (x : Int32) : Int32 := if 0 ≤ x then x else 0 - x
def Inj (a : Nat → Nat) (n : Nat) : Prop := ∀ i j, i < n → j < n → a i = a j → i = j
def inA (a : Nat → Nat) (n : Nat) : Nat → Prop := fun q => ∃ k, k < n ∧ q = a k
def nof : Addr → Prop := fun _ => False
theorem ifp {c : Prop} {h : Decidable c} {α : Type} {A B R : α} (hc : c) (e : (@ite α c h A B) = R) : A = R := by rw [if_pos hc] at e; exact e
theorem ifn {c : Prop} {h : Decidable c} {α : Type} {A B R : α} (hc : ¬ c) (e : (@ite α c h A B) = R) : B = R := by rw [if_neg hc] at e; exact e
theorem ifs {c : Prop} {h : Decidable c} {α : Type} {A : Option α} {R : α} (e : (@ite (Option α) c h A none) = some R) : c ∧ A = some R := by
  by_cases hc : c
  · rw [if_pos hc] at e; exact ⟨hc, e⟩
  · rw [if_neg hc] at e; cases e
theorem bns {α β : Type} {x : Option α} {k : α → Option β} {R : β} (e : x.bind k = some R) : ∃ r, x = some r ∧ k r = some R := by
  cases x with
  | none => cases e
  | some r => exact ⟨r, rfl, e⟩
abbrev clL : List vw_C := [(RX0, TX0, 0), (RX1, TX1, 0), (RX2, TX2, 2), (RX3, TX3, 10), (RX4, TX4, 6), (RX5, TX5, 5), (RX6, TX6, 3), (RX7, TX7, 0), (RX8, TX8, 1), (RX9, TX9, 3), (RX10, TX10, 6), (RX11, TX11, 9), (RX12, TX12, 25)]
abbrev tyL (g : Nat → ClassId) : List (ClassId × FieldType) := [(g 0, .int), (g 1, .boolean), (g 2, .object "BreathSquare$Sheet"), (g 3, .object "BreathSquare$Stone")]
def nwF : List (String × Nat × String × String × String) := [(RX11, 281, "BreathSquare$Trace", "left", "I"), (RX11, 109, "BreathSquare$Paving", "kindOf", "[I"), (RX11, 113, "BreathSquare$Paving", "ground", "[I"), (RX11, 116, "BreathSquare$Paving", "lifted", "[I"), (RX4, 67, "BreathSquare$Paving", "rowOf", "[I"), (RX4, 73, "BreathSquare$Paving", "columnOf", "[I"), (RX11, 130, "BreathSquare$Paving", "wet", "[I"), (RX11, 133, "BreathSquare$Paving", "frost", "[I"), (RX4, 28, "BreathSquare$Paving", "wide", "I"), (RX11, 284, "BreathSquare$Paving", "wide", "I"), (RX11, 156, "BreathSquare$Ways", "steps", "[I"), (RX11, 188, "BreathSquare$Places", "first", "I"), (RX11, 191, "BreathSquare$Places", "second", "I"), (RX11, 185, "BreathSquare$Places", "together", "I"), (RX11, 230, "BreathSquare$Readings", "count", "I"), (RX3, 46, "BreathSquare$Sheet", "cells", "[I"), (RX11, 256, "BreathSquare$Sheet", "cells", "[I"), (RX11, 259, "BreathSquare$Sheet", "sort", "I")]
def nwM : List (String × Nat × MethodName) := [(RX11, 11, yX8_init), (RX11, 20, yX3_init), (RX3, 11, yX7_init), (RX3, 14, yX0_init), (RX0, 1, yX7_init), (RX3, 17, yX1_init), (RX1, 1, yX0_init), (RX11, 64, yX6_init), (RX3, 63, yX11_isWithin)]
def NW (U : State) : Prop := (∀ q ∈ nwF, va_Nw (.fieldLinkNest q.1 q.2.1 q.2.2.1 q.2.2.2.1 q.2.2.2.2 "BreathSquare") U) ∧ (∀ q ∈ nwM, va_Nw (.methodLinkNest q.1 q.2.1 q.2.2 "BreathSquare") U) ∧ va_Nw (.declares ⟨"BreathSquare$Stone", "stoneTelling", "(ILBreathSquare$Trace;)I"⟩) U ∧ va_Nw (.castable RX0 "BreathSquare$Stone") U ∧ va_Nw (.castable RX1 "BreathSquare$Stone") U ∧ va_AO "BreathSquare$Stone" U ∧ va_AO "BreathSquare$Sheet" U
theorem NW.warm {s U : State} (hW : s.WarmedH U.vm) (h : NW s) : NW U := ⟨fun q hq => va_Nw.warmF hW (h.1 q hq), fun q hq => va_Nw.warmM hW (h.2.1 q hq), va_Nw.warmD hW h.2.2.1, va_Nw.warmC hW h.2.2.2.1, va_Nw.warmC hW h.2.2.2.2.1, va_AO.moved hW.alike h.2.2.2.2.2.1, va_AO.moved hW.alike h.2.2.2.2.2.2⟩
theorem NW.same {u U : State} (e : u.vm = U.vm) (h : NW u) : NW U := ⟨fun q hq => va_Nw.same rfl e (h.1 q hq), fun q hq => va_Nw.same rfl e (h.2.1 q hq), va_Nw.same rfl e h.2.2.1, va_Nw.same rfl e h.2.2.2.1, va_Nw.same rfl e h.2.2.2.2.1, va_AO.moved (by rw [e]; exact Vm.Alike.refl U.vm) h.2.2.2.2.2.1, va_AO.moved (by rw [e]; exact Vm.Alike.refl U.vm) h.2.2.2.2.2.2⟩
theorem NW.f {U : State} (h : NW U) (i : Nat) {q : String × Nat × String × String × String} (hq : nwF[i]? = some q) (A : Array Value) : (Cond.fieldLinkNest q.1 q.2.1 q.2.2.1 q.2.2.2.1 q.2.2.2.2 "BreathSquare").before A U = true := va_Nw.use rfl (h.1 q (List.mem_of_getElem? hq))
theorem NW.m {U : State} (h : NW U) (i : Nat) {q : String × Nat × MethodName} (hq : nwM[i]? = some q) : va_Nw (.methodLinkNest q.1 q.2.1 q.2.2 "BreathSquare") U := h.2.1 q (List.mem_of_getElem? hq)
def wC (g : Nat → ClassId) (a : Nat → Nat) (M : Mem) : va_W := [
  (a 0, .inr (11, [.ref (a 1), .ref (a 2), .ref (a 3), .ref (a 4), .ref (a 5), .ref (a 6), .ref (a 7), .ref (a 8), .int (M 0 8)])),
  (a 1, .inr (8, [.int (M 1 0)])),
  (a 2, .inr (3, [.ref (a 17), .ref (a 21), .ref (a 22), .ref (a 23), .ref (a 24), .ref (a 25), .ref (a 26), .ref (a 27), .int (M 2 8), .int (M 2 9)])),
  (a 3, .inr (10, [.ref (a 2), .ref (a 28), .ref (a 29), .ref (a 30), .ref (a 31), .ref (a 32)])),
  (a 4, .inr (4, [.ref (a 2), .ref (a 33), .ref (a 34), .int (M 4 3), .int (M 4 4), .int (M 4 5)])),
  (a 5, .inr (9, [.ref (a 2), .ref (a 35), .ref (a 36)])),
  (a 6, .inr (2, [.ref (a 2), .ref (a 37)])),
  (a 7, .inr (5, [.ref (a 2), .ref (a 38), .ref (a 39), .ref (a 40), .int (M 7 4)])),
  (a 8, .inl (g 2, 4, .inr (.inr (.inr (.inr (fun j => some (a (9 + j)))))))),
  (a 9, .inr (6, [.ref (a 13), .int (M 9 1), .int (M 9 2)])),
  (a 10, .inr (6, [.ref (a 14), .int (M 10 1), .int (M 10 2)])),
  (a 11, .inr (6, [.ref (a 15), .int (M 11 1), .int (M 11 2)])),
  (a 12, .inr (6, [.ref (a 16), .int (M 12 1), .int (M 12 2)])),
  (a 13, .inl (g 0, 80, .inl (M 13))),
  (a 14, .inl (g 0, 80, .inl (M 14))),
  (a 15, .inl (g 0, 80, .inl (M 15))),
  (a 16, .inl (g 0, 80, .inl (M 16))),
  (a 17, .inl (g 3, 3, .inr (.inr (.inr (.inr (fun j => some (a (18 + j)))))))),
  (a 18, .inr (7, [])),
  (a 19, .inr (0, [])),
  (a 20, .inr (1, [])),
  (a 21, .inl (g 0, 30, .inl (M 21))),
  (a 22, .inl (g 0, 30, .inl (M 22))),
  (a 23, .inl (g 0, 30, .inl (M 23))),
  (a 24, .inl (g 0, 30, .inl (M 24))),
  (a 25, .inl (g 0, 30, .inl (M 25))),
  (a 26, .inl (g 0, 12, .inl (M 26))),
  (a 27, .inl (g 0, 12, .inl (M 27))),
  (a 28, .inl (g 0, 30, .inl (M 28))),
  (a 29, .inl (g 0, 30, .inl (M 29))),
  (a 30, .inl (g 0, 30, .inl (M 30))),
  (a 31, .inl (g 0, 30, .inl (M 31))),
  (a 32, .inl (g 0, 30, .inl (M 32))),
  (a 33, .inl (g 0, 30, .inl (M 33))),
  (a 34, .inl (g 0, 30, .inl (M 34))),
  (a 35, .inl (g 0, 30, .inl (M 35))),
  (a 36, .inl (g 0, 30, .inl (M 36))),
  (a 37, .inl (g 0, 30, .inl (M 37))),
  (a 38, .inl (g 0, 10, .inl (M 38))),
  (a 39, .inl (g 0, 10, .inl (M 39))),
  (a 40, .inl (g 0, 10, .inl (M 40)))]
theorem aC_0 (g : Nat → ClassId) (a : Nat → Nat) (M : Mem) : (wC g a M)[0]? = some (a 0, .inr (11, [.ref (a 1), .ref (a 2), .ref (a 3), .ref (a 4), .ref (a 5), .ref (a 6), .ref (a 7), .ref (a 8), .int (M 0 8)])) := rfl
theorem aC_1 (g : Nat → ClassId) (a : Nat → Nat) (M : Mem) : (wC g a M)[1]? = some (a 1, .inr (8, [.int (M 1 0)])) := rfl
theorem aC_2 (g : Nat → ClassId) (a : Nat → Nat) (M : Mem) : (wC g a M)[2]? = some (a 2, .inr (3, [.ref (a 17), .ref (a 21), .ref (a 22), .ref (a 23), .ref (a 24), .ref (a 25), .ref (a 26), .ref (a 27), .int (M 2 8), .int (M 2 9)])) := rfl
theorem aC_3 (g : Nat → ClassId) (a : Nat → Nat) (M : Mem) : (wC g a M)[3]? = some (a 3, .inr (10, [.ref (a 2), .ref (a 28), .ref (a 29), .ref (a 30), .ref (a 31), .ref (a 32)])) := rfl
theorem aC_4 (g : Nat → ClassId) (a : Nat → Nat) (M : Mem) : (wC g a M)[4]? = some (a 4, .inr (4, [.ref (a 2), .ref (a 33), .ref (a 34), .int (M 4 3), .int (M 4 4), .int (M 4 5)])) := rfl
theorem aC_5 (g : Nat → ClassId) (a : Nat → Nat) (M : Mem) : (wC g a M)[5]? = some (a 5, .inr (9, [.ref (a 2), .ref (a 35), .ref (a 36)])) := rfl
theorem aC_6 (g : Nat → ClassId) (a : Nat → Nat) (M : Mem) : (wC g a M)[6]? = some (a 6, .inr (2, [.ref (a 2), .ref (a 37)])) := rfl
theorem aC_7 (g : Nat → ClassId) (a : Nat → Nat) (M : Mem) : (wC g a M)[7]? = some (a 7, .inr (5, [.ref (a 2), .ref (a 38), .ref (a 39), .ref (a 40), .int (M 7 4)])) := rfl
theorem aC_8 (g : Nat → ClassId) (a : Nat → Nat) (M : Mem) : (wC g a M)[8]? = some (a 8, .inl (g 2, 4, .inr (.inr (.inr (.inr (fun j => some (a (9 + j)))))))) := rfl
theorem aC_9 (g : Nat → ClassId) (a : Nat → Nat) (M : Mem) : (wC g a M)[9]? = some (a 9, .inr (6, [.ref (a 13), .int (M 9 1), .int (M 9 2)])) := rfl
theorem aC_10 (g : Nat → ClassId) (a : Nat → Nat) (M : Mem) : (wC g a M)[10]? = some (a 10, .inr (6, [.ref (a 14), .int (M 10 1), .int (M 10 2)])) := rfl
theorem aC_11 (g : Nat → ClassId) (a : Nat → Nat) (M : Mem) : (wC g a M)[11]? = some (a 11, .inr (6, [.ref (a 15), .int (M 11 1), .int (M 11 2)])) := rfl
theorem aC_12 (g : Nat → ClassId) (a : Nat → Nat) (M : Mem) : (wC g a M)[12]? = some (a 12, .inr (6, [.ref (a 16), .int (M 12 1), .int (M 12 2)])) := rfl
theorem aC_13 (g : Nat → ClassId) (a : Nat → Nat) (M : Mem) : (wC g a M)[13]? = some (a 13, .inl (g 0, 80, .inl (M 13))) := rfl
theorem aC_14 (g : Nat → ClassId) (a : Nat → Nat) (M : Mem) : (wC g a M)[14]? = some (a 14, .inl (g 0, 80, .inl (M 14))) := rfl
theorem aC_15 (g : Nat → ClassId) (a : Nat → Nat) (M : Mem) : (wC g a M)[15]? = some (a 15, .inl (g 0, 80, .inl (M 15))) := rfl
theorem aC_16 (g : Nat → ClassId) (a : Nat → Nat) (M : Mem) : (wC g a M)[16]? = some (a 16, .inl (g 0, 80, .inl (M 16))) := rfl
theorem aC_17 (g : Nat → ClassId) (a : Nat → Nat) (M : Mem) : (wC g a M)[17]? = some (a 17, .inl (g 3, 3, .inr (.inr (.inr (.inr (fun j => some (a (18 + j)))))))) := rfl
theorem aC_18 (g : Nat → ClassId) (a : Nat → Nat) (M : Mem) : (wC g a M)[18]? = some (a 18, .inr (7, [])) := rfl
theorem aC_19 (g : Nat → ClassId) (a : Nat → Nat) (M : Mem) : (wC g a M)[19]? = some (a 19, .inr (0, [])) := rfl
theorem aC_20 (g : Nat → ClassId) (a : Nat → Nat) (M : Mem) : (wC g a M)[20]? = some (a 20, .inr (1, [])) := rfl
theorem aC_21 (g : Nat → ClassId) (a : Nat → Nat) (M : Mem) : (wC g a M)[21]? = some (a 21, .inl (g 0, 30, .inl (M 21))) := rfl
theorem aC_22 (g : Nat → ClassId) (a : Nat → Nat) (M : Mem) : (wC g a M)[22]? = some (a 22, .inl (g 0, 30, .inl (M 22))) := rfl
theorem aC_23 (g : Nat → ClassId) (a : Nat → Nat) (M : Mem) : (wC g a M)[23]? = some (a 23, .inl (g 0, 30, .inl (M 23))) := rfl
theorem aC_24 (g : Nat → ClassId) (a : Nat → Nat) (M : Mem) : (wC g a M)[24]? = some (a 24, .inl (g 0, 30, .inl (M 24))) := rfl
theorem aC_25 (g : Nat → ClassId) (a : Nat → Nat) (M : Mem) : (wC g a M)[25]? = some (a 25, .inl (g 0, 30, .inl (M 25))) := rfl
theorem aC_26 (g : Nat → ClassId) (a : Nat → Nat) (M : Mem) : (wC g a M)[26]? = some (a 26, .inl (g 0, 12, .inl (M 26))) := rfl
theorem aC_27 (g : Nat → ClassId) (a : Nat → Nat) (M : Mem) : (wC g a M)[27]? = some (a 27, .inl (g 0, 12, .inl (M 27))) := rfl
theorem aC_28 (g : Nat → ClassId) (a : Nat → Nat) (M : Mem) : (wC g a M)[28]? = some (a 28, .inl (g 0, 30, .inl (M 28))) := rfl
theorem aC_29 (g : Nat → ClassId) (a : Nat → Nat) (M : Mem) : (wC g a M)[29]? = some (a 29, .inl (g 0, 30, .inl (M 29))) := rfl
theorem aC_30 (g : Nat → ClassId) (a : Nat → Nat) (M : Mem) : (wC g a M)[30]? = some (a 30, .inl (g 0, 30, .inl (M 30))) := rfl
theorem aC_31 (g : Nat → ClassId) (a : Nat → Nat) (M : Mem) : (wC g a M)[31]? = some (a 31, .inl (g 0, 30, .inl (M 31))) := rfl
theorem aC_32 (g : Nat → ClassId) (a : Nat → Nat) (M : Mem) : (wC g a M)[32]? = some (a 32, .inl (g 0, 30, .inl (M 32))) := rfl
theorem aC_33 (g : Nat → ClassId) (a : Nat → Nat) (M : Mem) : (wC g a M)[33]? = some (a 33, .inl (g 0, 30, .inl (M 33))) := rfl
theorem aC_34 (g : Nat → ClassId) (a : Nat → Nat) (M : Mem) : (wC g a M)[34]? = some (a 34, .inl (g 0, 30, .inl (M 34))) := rfl
theorem aC_35 (g : Nat → ClassId) (a : Nat → Nat) (M : Mem) : (wC g a M)[35]? = some (a 35, .inl (g 0, 30, .inl (M 35))) := rfl
theorem aC_36 (g : Nat → ClassId) (a : Nat → Nat) (M : Mem) : (wC g a M)[36]? = some (a 36, .inl (g 0, 30, .inl (M 36))) := rfl
theorem aC_37 (g : Nat → ClassId) (a : Nat → Nat) (M : Mem) : (wC g a M)[37]? = some (a 37, .inl (g 0, 30, .inl (M 37))) := rfl
theorem aC_38 (g : Nat → ClassId) (a : Nat → Nat) (M : Mem) : (wC g a M)[38]? = some (a 38, .inl (g 0, 10, .inl (M 38))) := rfl
theorem aC_39 (g : Nat → ClassId) (a : Nat → Nat) (M : Mem) : (wC g a M)[39]? = some (a 39, .inl (g 0, 10, .inl (M 39))) := rfl
theorem aC_40 (g : Nat → ClassId) (a : Nat → Nat) (M : Mem) : (wC g a M)[40]? = some (a 40, .inl (g 0, 10, .inl (M 40))) := rfl
theorem sC_0_8 (g : Nat → ClassId) (a : Nat → Nat) (M : Mem) (v : Int32) : (wC g a M).set 0 (a 0, .inr (11, ([.ref (a 1), .ref (a 2), .ref (a 3), .ref (a 4), .ref (a 5), .ref (a 6), .ref (a 7), .ref (a 8), .int (M 0 8)] : List Value).set 8 (.int v))) = wC g a (up M 0 8 v) := rfl
theorem sC_1_0 (g : Nat → ClassId) (a : Nat → Nat) (M : Mem) (v : Int32) : (wC g a M).set 1 (a 1, .inr (8, ([.int (M 1 0)] : List Value).set 0 (.int v))) = wC g a (up M 1 0 v) := rfl
theorem sC_2_8 (g : Nat → ClassId) (a : Nat → Nat) (M : Mem) (v : Int32) : (wC g a M).set 2 (a 2, .inr (3, ([.ref (a 17), .ref (a 21), .ref (a 22), .ref (a 23), .ref (a 24), .ref (a 25), .ref (a 26), .ref (a 27), .int (M 2 8), .int (M 2 9)] : List Value).set 8 (.int v))) = wC g a (up M 2 8 v) := rfl
theorem sC_2_9 (g : Nat → ClassId) (a : Nat → Nat) (M : Mem) (v : Int32) : (wC g a M).set 2 (a 2, .inr (3, ([.ref (a 17), .ref (a 21), .ref (a 22), .ref (a 23), .ref (a 24), .ref (a 25), .ref (a 26), .ref (a 27), .int (M 2 8), .int (M 2 9)] : List Value).set 9 (.int v))) = wC g a (up M 2 9 v) := rfl
theorem sC_4_3 (g : Nat → ClassId) (a : Nat → Nat) (M : Mem) (v : Int32) : (wC g a M).set 4 (a 4, .inr (4, ([.ref (a 2), .ref (a 33), .ref (a 34), .int (M 4 3), .int (M 4 4), .int (M 4 5)] : List Value).set 3 (.int v))) = wC g a (up M 4 3 v) := rfl
theorem sC_4_4 (g : Nat → ClassId) (a : Nat → Nat) (M : Mem) (v : Int32) : (wC g a M).set 4 (a 4, .inr (4, ([.ref (a 2), .ref (a 33), .ref (a 34), .int (M 4 3), .int (M 4 4), .int (M 4 5)] : List Value).set 4 (.int v))) = wC g a (up M 4 4 v) := rfl
theorem sC_4_5 (g : Nat → ClassId) (a : Nat → Nat) (M : Mem) (v : Int32) : (wC g a M).set 4 (a 4, .inr (4, ([.ref (a 2), .ref (a 33), .ref (a 34), .int (M 4 3), .int (M 4 4), .int (M 4 5)] : List Value).set 5 (.int v))) = wC g a (up M 4 5 v) := rfl
theorem sC_7_4 (g : Nat → ClassId) (a : Nat → Nat) (M : Mem) (v : Int32) : (wC g a M).set 7 (a 7, .inr (5, ([.ref (a 2), .ref (a 38), .ref (a 39), .ref (a 40), .int (M 7 4)] : List Value).set 4 (.int v))) = wC g a (up M 7 4 v) := rfl
theorem sC_9_1 (g : Nat → ClassId) (a : Nat → Nat) (M : Mem) (v : Int32) : (wC g a M).set 9 (a 9, .inr (6, ([.ref (a 13), .int (M 9 1), .int (M 9 2)] : List Value).set 1 (.int v))) = wC g a (up M 9 1 v) := rfl
theorem sC_9_2 (g : Nat → ClassId) (a : Nat → Nat) (M : Mem) (v : Int32) : (wC g a M).set 9 (a 9, .inr (6, ([.ref (a 13), .int (M 9 1), .int (M 9 2)] : List Value).set 2 (.int v))) = wC g a (up M 9 2 v) := rfl
theorem sC_10_1 (g : Nat → ClassId) (a : Nat → Nat) (M : Mem) (v : Int32) : (wC g a M).set 10 (a 10, .inr (6, ([.ref (a 14), .int (M 10 1), .int (M 10 2)] : List Value).set 1 (.int v))) = wC g a (up M 10 1 v) := rfl
theorem sC_10_2 (g : Nat → ClassId) (a : Nat → Nat) (M : Mem) (v : Int32) : (wC g a M).set 10 (a 10, .inr (6, ([.ref (a 14), .int (M 10 1), .int (M 10 2)] : List Value).set 2 (.int v))) = wC g a (up M 10 2 v) := rfl
theorem sC_11_1 (g : Nat → ClassId) (a : Nat → Nat) (M : Mem) (v : Int32) : (wC g a M).set 11 (a 11, .inr (6, ([.ref (a 15), .int (M 11 1), .int (M 11 2)] : List Value).set 1 (.int v))) = wC g a (up M 11 1 v) := rfl
theorem sC_11_2 (g : Nat → ClassId) (a : Nat → Nat) (M : Mem) (v : Int32) : (wC g a M).set 11 (a 11, .inr (6, ([.ref (a 15), .int (M 11 1), .int (M 11 2)] : List Value).set 2 (.int v))) = wC g a (up M 11 2 v) := rfl
theorem sC_12_1 (g : Nat → ClassId) (a : Nat → Nat) (M : Mem) (v : Int32) : (wC g a M).set 12 (a 12, .inr (6, ([.ref (a 16), .int (M 12 1), .int (M 12 2)] : List Value).set 1 (.int v))) = wC g a (up M 12 1 v) := rfl
theorem sC_12_2 (g : Nat → ClassId) (a : Nat → Nat) (M : Mem) (v : Int32) : (wC g a M).set 12 (a 12, .inr (6, ([.ref (a 16), .int (M 12 1), .int (M 12 2)] : List Value).set 2 (.int v))) = wC g a (up M 12 2 v) := rfl
theorem sC_13 (g : Nat → ClassId) (a : Nat → Nat) (M : Mem) (f : Nat → Int32) : (wC g a M).set 13 (a 13, .inl (g 0, 80, .inl f)) = wC g a (upA M 13 f) := rfl
theorem sC_14 (g : Nat → ClassId) (a : Nat → Nat) (M : Mem) (f : Nat → Int32) : (wC g a M).set 14 (a 14, .inl (g 0, 80, .inl f)) = wC g a (upA M 14 f) := rfl
theorem sC_15 (g : Nat → ClassId) (a : Nat → Nat) (M : Mem) (f : Nat → Int32) : (wC g a M).set 15 (a 15, .inl (g 0, 80, .inl f)) = wC g a (upA M 15 f) := rfl
theorem sC_16 (g : Nat → ClassId) (a : Nat → Nat) (M : Mem) (f : Nat → Int32) : (wC g a M).set 16 (a 16, .inl (g 0, 80, .inl f)) = wC g a (upA M 16 f) := rfl
theorem sC_21 (g : Nat → ClassId) (a : Nat → Nat) (M : Mem) (f : Nat → Int32) : (wC g a M).set 21 (a 21, .inl (g 0, 30, .inl f)) = wC g a (upA M 21 f) := rfl
theorem sC_22 (g : Nat → ClassId) (a : Nat → Nat) (M : Mem) (f : Nat → Int32) : (wC g a M).set 22 (a 22, .inl (g 0, 30, .inl f)) = wC g a (upA M 22 f) := rfl
theorem sC_23 (g : Nat → ClassId) (a : Nat → Nat) (M : Mem) (f : Nat → Int32) : (wC g a M).set 23 (a 23, .inl (g 0, 30, .inl f)) = wC g a (upA M 23 f) := rfl
theorem sC_24 (g : Nat → ClassId) (a : Nat → Nat) (M : Mem) (f : Nat → Int32) : (wC g a M).set 24 (a 24, .inl (g 0, 30, .inl f)) = wC g a (upA M 24 f) := rfl
theorem sC_25 (g : Nat → ClassId) (a : Nat → Nat) (M : Mem) (f : Nat → Int32) : (wC g a M).set 25 (a 25, .inl (g 0, 30, .inl f)) = wC g a (upA M 25 f) := rfl
theorem sC_26 (g : Nat → ClassId) (a : Nat → Nat) (M : Mem) (f : Nat → Int32) : (wC g a M).set 26 (a 26, .inl (g 0, 12, .inl f)) = wC g a (upA M 26 f) := rfl
theorem sC_27 (g : Nat → ClassId) (a : Nat → Nat) (M : Mem) (f : Nat → Int32) : (wC g a M).set 27 (a 27, .inl (g 0, 12, .inl f)) = wC g a (upA M 27 f) := rfl
theorem sC_28 (g : Nat → ClassId) (a : Nat → Nat) (M : Mem) (f : Nat → Int32) : (wC g a M).set 28 (a 28, .inl (g 0, 30, .inl f)) = wC g a (upA M 28 f) := rfl
theorem sC_29 (g : Nat → ClassId) (a : Nat → Nat) (M : Mem) (f : Nat → Int32) : (wC g a M).set 29 (a 29, .inl (g 0, 30, .inl f)) = wC g a (upA M 29 f) := rfl
theorem sC_30 (g : Nat → ClassId) (a : Nat → Nat) (M : Mem) (f : Nat → Int32) : (wC g a M).set 30 (a 30, .inl (g 0, 30, .inl f)) = wC g a (upA M 30 f) := rfl
theorem sC_31 (g : Nat → ClassId) (a : Nat → Nat) (M : Mem) (f : Nat → Int32) : (wC g a M).set 31 (a 31, .inl (g 0, 30, .inl f)) = wC g a (upA M 31 f) := rfl
theorem sC_32 (g : Nat → ClassId) (a : Nat → Nat) (M : Mem) (f : Nat → Int32) : (wC g a M).set 32 (a 32, .inl (g 0, 30, .inl f)) = wC g a (upA M 32 f) := rfl
theorem sC_33 (g : Nat → ClassId) (a : Nat → Nat) (M : Mem) (f : Nat → Int32) : (wC g a M).set 33 (a 33, .inl (g 0, 30, .inl f)) = wC g a (upA M 33 f) := rfl
theorem sC_34 (g : Nat → ClassId) (a : Nat → Nat) (M : Mem) (f : Nat → Int32) : (wC g a M).set 34 (a 34, .inl (g 0, 30, .inl f)) = wC g a (upA M 34 f) := rfl
theorem sC_35 (g : Nat → ClassId) (a : Nat → Nat) (M : Mem) (f : Nat → Int32) : (wC g a M).set 35 (a 35, .inl (g 0, 30, .inl f)) = wC g a (upA M 35 f) := rfl
theorem sC_36 (g : Nat → ClassId) (a : Nat → Nat) (M : Mem) (f : Nat → Int32) : (wC g a M).set 36 (a 36, .inl (g 0, 30, .inl f)) = wC g a (upA M 36 f) := rfl
theorem sC_37 (g : Nat → ClassId) (a : Nat → Nat) (M : Mem) (f : Nat → Int32) : (wC g a M).set 37 (a 37, .inl (g 0, 30, .inl f)) = wC g a (upA M 37 f) := rfl
theorem sC_38 (g : Nat → ClassId) (a : Nat → Nat) (M : Mem) (f : Nat → Int32) : (wC g a M).set 38 (a 38, .inl (g 0, 10, .inl f)) = wC g a (upA M 38 f) := rfl
theorem sC_39 (g : Nat → ClassId) (a : Nat → Nat) (M : Mem) (f : Nat → Int32) : (wC g a M).set 39 (a 39, .inl (g 0, 10, .inl f)) = wC g a (upA M 39 f) := rfl
theorem sC_40 (g : Nat → ClassId) (a : Nat → Nat) (M : Mem) (f : Nat → Int32) : (wC g a M).set 40 (a 40, .inl (g 0, 10, .inl f)) = wC g a (upA M 40 f) := rfl
theorem wC_at {g : Nat → ClassId} {a : Nat → Nat} {M : Mem} {i : Nat} {q : Nat × va_E} (h : (wC g a M)[i]? = some q) : i < 41 ∧ q.1 = a i := by
  have h1 : ((wC g a M).map Prod.fst)[i]? = some q.1 := by rw [List.getElem?_map, h]; rfl
  rw [show (wC g a M).map Prod.fst = (List.range 41).map a from rfl, List.getElem?_map] at h1
  obtain ⟨z, hz, hq⟩ := Option.map_eq_some_iff.mp h1
  obtain ⟨hl, e1⟩ := List.getElem?_eq_some_iff.mp hz
  rw [List.length_range] at hl
  rw [List.getElem_range] at e1
  exact ⟨hl, by rw [← hq, e1]⟩
theorem wC_D {g : Nat → ClassId} {a : Nat → Nat} {M : Mem} (hJ : Inj a 41) : va_D (inA a 41) (wC g a M) := by
  refine ⟨fun i j x y hx hy e => ?_, fun k q hk => ?_⟩
  · obtain ⟨h1, e1⟩ := wC_at hx
    obtain ⟨h2, e2⟩ := wC_at hy
    exact hJ i j h1 h2 (by rw [← e1, ← e2, e])
  · obtain ⟨h1, e1⟩ := wC_at hk
    exact ⟨k, h1, e1⟩
def wM (g : Nat → ClassId) (a : Nat → Nat) (M : Mem) : va_W := [
  (a 0, .inr (12, [.int (M 0 0), .int (M 0 1), .ref (a 1), .ref (a 2), .ref (a 3), .int (M 0 5), .int (M 0 6), .ref (a 4), .ref (a 5), .ref (a 6), .ref (a 7), .ref (a 8), .int (M 0 12), .int (M 0 13), .int (M 0 14), .ref (a 9), .ref (a 10), .ref (a 11), .ref (a 12), .ref (a 13), .ref (a 14), .int (M 0 21), .ref (a 15), .ref (a 16), .ref (a 17)])),
  (a 1, .inl (g 0, 4, .inl (M 1))),
  (a 2, .inl (g 0, 4, .inl (M 2))),
  (a 3, .inl (g 0, 320, .inl (M 3))),
  (a 4, .inl (g 0, 30, .inl (M 4))),
  (a 5, .inl (g 0, 30, .inl (M 5))),
  (a 6, .inl (g 0, 30, .inl (M 6))),
  (a 7, .inl (g 0, 12, .inl (M 7))),
  (a 8, .inl (g 0, 12, .inl (M 8))),
  (a 9, .inl (g 0, 30, .inl (M 9))),
  (a 10, .inl (g 0, 30, .inl (M 10))),
  (a 11, .inl (g 0, 30, .inl (M 11))),
  (a 12, .inl (g 0, 30, .inl (M 12))),
  (a 13, .inl (g 0, 30, .inl (M 13))),
  (a 14, .inl (g 1, 30, .inl (M 14))),
  (a 15, .inl (g 0, 10, .inl (M 15))),
  (a 16, .inl (g 0, 10, .inl (M 16))),
  (a 17, .inl (g 0, 10, .inl (M 17)))]
theorem aM_0 (g : Nat → ClassId) (a : Nat → Nat) (M : Mem) : (wM g a M)[0]? = some (a 0, .inr (12, [.int (M 0 0), .int (M 0 1), .ref (a 1), .ref (a 2), .ref (a 3), .int (M 0 5), .int (M 0 6), .ref (a 4), .ref (a 5), .ref (a 6), .ref (a 7), .ref (a 8), .int (M 0 12), .int (M 0 13), .int (M 0 14), .ref (a 9), .ref (a 10), .ref (a 11), .ref (a 12), .ref (a 13), .ref (a 14), .int (M 0 21), .ref (a 15), .ref (a 16), .ref (a 17)])) := rfl
theorem aM_1 (g : Nat → ClassId) (a : Nat → Nat) (M : Mem) : (wM g a M)[1]? = some (a 1, .inl (g 0, 4, .inl (M 1))) := rfl
theorem aM_2 (g : Nat → ClassId) (a : Nat → Nat) (M : Mem) : (wM g a M)[2]? = some (a 2, .inl (g 0, 4, .inl (M 2))) := rfl
theorem aM_3 (g : Nat → ClassId) (a : Nat → Nat) (M : Mem) : (wM g a M)[3]? = some (a 3, .inl (g 0, 320, .inl (M 3))) := rfl
theorem aM_4 (g : Nat → ClassId) (a : Nat → Nat) (M : Mem) : (wM g a M)[4]? = some (a 4, .inl (g 0, 30, .inl (M 4))) := rfl
theorem aM_5 (g : Nat → ClassId) (a : Nat → Nat) (M : Mem) : (wM g a M)[5]? = some (a 5, .inl (g 0, 30, .inl (M 5))) := rfl
theorem aM_6 (g : Nat → ClassId) (a : Nat → Nat) (M : Mem) : (wM g a M)[6]? = some (a 6, .inl (g 0, 30, .inl (M 6))) := rfl
theorem aM_7 (g : Nat → ClassId) (a : Nat → Nat) (M : Mem) : (wM g a M)[7]? = some (a 7, .inl (g 0, 12, .inl (M 7))) := rfl
theorem aM_8 (g : Nat → ClassId) (a : Nat → Nat) (M : Mem) : (wM g a M)[8]? = some (a 8, .inl (g 0, 12, .inl (M 8))) := rfl
theorem aM_9 (g : Nat → ClassId) (a : Nat → Nat) (M : Mem) : (wM g a M)[9]? = some (a 9, .inl (g 0, 30, .inl (M 9))) := rfl
theorem aM_10 (g : Nat → ClassId) (a : Nat → Nat) (M : Mem) : (wM g a M)[10]? = some (a 10, .inl (g 0, 30, .inl (M 10))) := rfl
theorem aM_11 (g : Nat → ClassId) (a : Nat → Nat) (M : Mem) : (wM g a M)[11]? = some (a 11, .inl (g 0, 30, .inl (M 11))) := rfl
theorem aM_12 (g : Nat → ClassId) (a : Nat → Nat) (M : Mem) : (wM g a M)[12]? = some (a 12, .inl (g 0, 30, .inl (M 12))) := rfl
theorem aM_13 (g : Nat → ClassId) (a : Nat → Nat) (M : Mem) : (wM g a M)[13]? = some (a 13, .inl (g 0, 30, .inl (M 13))) := rfl
theorem aM_14 (g : Nat → ClassId) (a : Nat → Nat) (M : Mem) : (wM g a M)[14]? = some (a 14, .inl (g 1, 30, .inl (M 14))) := rfl
theorem aM_15 (g : Nat → ClassId) (a : Nat → Nat) (M : Mem) : (wM g a M)[15]? = some (a 15, .inl (g 0, 10, .inl (M 15))) := rfl
theorem aM_16 (g : Nat → ClassId) (a : Nat → Nat) (M : Mem) : (wM g a M)[16]? = some (a 16, .inl (g 0, 10, .inl (M 16))) := rfl
theorem aM_17 (g : Nat → ClassId) (a : Nat → Nat) (M : Mem) : (wM g a M)[17]? = some (a 17, .inl (g 0, 10, .inl (M 17))) := rfl
theorem sM_0_0 (g : Nat → ClassId) (a : Nat → Nat) (M : Mem) (v : Int32) : (wM g a M).set 0 (a 0, .inr (12, ([.int (M 0 0), .int (M 0 1), .ref (a 1), .ref (a 2), .ref (a 3), .int (M 0 5), .int (M 0 6), .ref (a 4), .ref (a 5), .ref (a 6), .ref (a 7), .ref (a 8), .int (M 0 12), .int (M 0 13), .int (M 0 14), .ref (a 9), .ref (a 10), .ref (a 11), .ref (a 12), .ref (a 13), .ref (a 14), .int (M 0 21), .ref (a 15), .ref (a 16), .ref (a 17)] : List Value).set 0 (.int v))) = wM g a (up M 0 0 v) := rfl
theorem sM_0_1 (g : Nat → ClassId) (a : Nat → Nat) (M : Mem) (v : Int32) : (wM g a M).set 0 (a 0, .inr (12, ([.int (M 0 0), .int (M 0 1), .ref (a 1), .ref (a 2), .ref (a 3), .int (M 0 5), .int (M 0 6), .ref (a 4), .ref (a 5), .ref (a 6), .ref (a 7), .ref (a 8), .int (M 0 12), .int (M 0 13), .int (M 0 14), .ref (a 9), .ref (a 10), .ref (a 11), .ref (a 12), .ref (a 13), .ref (a 14), .int (M 0 21), .ref (a 15), .ref (a 16), .ref (a 17)] : List Value).set 1 (.int v))) = wM g a (up M 0 1 v) := rfl
theorem sM_0_5 (g : Nat → ClassId) (a : Nat → Nat) (M : Mem) (v : Int32) : (wM g a M).set 0 (a 0, .inr (12, ([.int (M 0 0), .int (M 0 1), .ref (a 1), .ref (a 2), .ref (a 3), .int (M 0 5), .int (M 0 6), .ref (a 4), .ref (a 5), .ref (a 6), .ref (a 7), .ref (a 8), .int (M 0 12), .int (M 0 13), .int (M 0 14), .ref (a 9), .ref (a 10), .ref (a 11), .ref (a 12), .ref (a 13), .ref (a 14), .int (M 0 21), .ref (a 15), .ref (a 16), .ref (a 17)] : List Value).set 5 (.int v))) = wM g a (up M 0 5 v) := rfl
theorem sM_0_6 (g : Nat → ClassId) (a : Nat → Nat) (M : Mem) (v : Int32) : (wM g a M).set 0 (a 0, .inr (12, ([.int (M 0 0), .int (M 0 1), .ref (a 1), .ref (a 2), .ref (a 3), .int (M 0 5), .int (M 0 6), .ref (a 4), .ref (a 5), .ref (a 6), .ref (a 7), .ref (a 8), .int (M 0 12), .int (M 0 13), .int (M 0 14), .ref (a 9), .ref (a 10), .ref (a 11), .ref (a 12), .ref (a 13), .ref (a 14), .int (M 0 21), .ref (a 15), .ref (a 16), .ref (a 17)] : List Value).set 6 (.int v))) = wM g a (up M 0 6 v) := rfl
theorem sM_0_12 (g : Nat → ClassId) (a : Nat → Nat) (M : Mem) (v : Int32) : (wM g a M).set 0 (a 0, .inr (12, ([.int (M 0 0), .int (M 0 1), .ref (a 1), .ref (a 2), .ref (a 3), .int (M 0 5), .int (M 0 6), .ref (a 4), .ref (a 5), .ref (a 6), .ref (a 7), .ref (a 8), .int (M 0 12), .int (M 0 13), .int (M 0 14), .ref (a 9), .ref (a 10), .ref (a 11), .ref (a 12), .ref (a 13), .ref (a 14), .int (M 0 21), .ref (a 15), .ref (a 16), .ref (a 17)] : List Value).set 12 (.int v))) = wM g a (up M 0 12 v) := rfl
theorem sM_0_13 (g : Nat → ClassId) (a : Nat → Nat) (M : Mem) (v : Int32) : (wM g a M).set 0 (a 0, .inr (12, ([.int (M 0 0), .int (M 0 1), .ref (a 1), .ref (a 2), .ref (a 3), .int (M 0 5), .int (M 0 6), .ref (a 4), .ref (a 5), .ref (a 6), .ref (a 7), .ref (a 8), .int (M 0 12), .int (M 0 13), .int (M 0 14), .ref (a 9), .ref (a 10), .ref (a 11), .ref (a 12), .ref (a 13), .ref (a 14), .int (M 0 21), .ref (a 15), .ref (a 16), .ref (a 17)] : List Value).set 13 (.int v))) = wM g a (up M 0 13 v) := rfl
theorem sM_0_14 (g : Nat → ClassId) (a : Nat → Nat) (M : Mem) (v : Int32) : (wM g a M).set 0 (a 0, .inr (12, ([.int (M 0 0), .int (M 0 1), .ref (a 1), .ref (a 2), .ref (a 3), .int (M 0 5), .int (M 0 6), .ref (a 4), .ref (a 5), .ref (a 6), .ref (a 7), .ref (a 8), .int (M 0 12), .int (M 0 13), .int (M 0 14), .ref (a 9), .ref (a 10), .ref (a 11), .ref (a 12), .ref (a 13), .ref (a 14), .int (M 0 21), .ref (a 15), .ref (a 16), .ref (a 17)] : List Value).set 14 (.int v))) = wM g a (up M 0 14 v) := rfl
theorem sM_0_21 (g : Nat → ClassId) (a : Nat → Nat) (M : Mem) (v : Int32) : (wM g a M).set 0 (a 0, .inr (12, ([.int (M 0 0), .int (M 0 1), .ref (a 1), .ref (a 2), .ref (a 3), .int (M 0 5), .int (M 0 6), .ref (a 4), .ref (a 5), .ref (a 6), .ref (a 7), .ref (a 8), .int (M 0 12), .int (M 0 13), .int (M 0 14), .ref (a 9), .ref (a 10), .ref (a 11), .ref (a 12), .ref (a 13), .ref (a 14), .int (M 0 21), .ref (a 15), .ref (a 16), .ref (a 17)] : List Value).set 21 (.int v))) = wM g a (up M 0 21 v) := rfl
theorem sM_1 (g : Nat → ClassId) (a : Nat → Nat) (M : Mem) (f : Nat → Int32) : (wM g a M).set 1 (a 1, .inl (g 0, 4, .inl f)) = wM g a (upA M 1 f) := rfl
theorem sM_2 (g : Nat → ClassId) (a : Nat → Nat) (M : Mem) (f : Nat → Int32) : (wM g a M).set 2 (a 2, .inl (g 0, 4, .inl f)) = wM g a (upA M 2 f) := rfl
theorem sM_3 (g : Nat → ClassId) (a : Nat → Nat) (M : Mem) (f : Nat → Int32) : (wM g a M).set 3 (a 3, .inl (g 0, 320, .inl f)) = wM g a (upA M 3 f) := rfl
theorem sM_4 (g : Nat → ClassId) (a : Nat → Nat) (M : Mem) (f : Nat → Int32) : (wM g a M).set 4 (a 4, .inl (g 0, 30, .inl f)) = wM g a (upA M 4 f) := rfl
theorem sM_5 (g : Nat → ClassId) (a : Nat → Nat) (M : Mem) (f : Nat → Int32) : (wM g a M).set 5 (a 5, .inl (g 0, 30, .inl f)) = wM g a (upA M 5 f) := rfl
theorem sM_6 (g : Nat → ClassId) (a : Nat → Nat) (M : Mem) (f : Nat → Int32) : (wM g a M).set 6 (a 6, .inl (g 0, 30, .inl f)) = wM g a (upA M 6 f) := rfl
theorem sM_7 (g : Nat → ClassId) (a : Nat → Nat) (M : Mem) (f : Nat → Int32) : (wM g a M).set 7 (a 7, .inl (g 0, 12, .inl f)) = wM g a (upA M 7 f) := rfl
theorem sM_8 (g : Nat → ClassId) (a : Nat → Nat) (M : Mem) (f : Nat → Int32) : (wM g a M).set 8 (a 8, .inl (g 0, 12, .inl f)) = wM g a (upA M 8 f) := rfl
theorem sM_9 (g : Nat → ClassId) (a : Nat → Nat) (M : Mem) (f : Nat → Int32) : (wM g a M).set 9 (a 9, .inl (g 0, 30, .inl f)) = wM g a (upA M 9 f) := rfl
theorem sM_10 (g : Nat → ClassId) (a : Nat → Nat) (M : Mem) (f : Nat → Int32) : (wM g a M).set 10 (a 10, .inl (g 0, 30, .inl f)) = wM g a (upA M 10 f) := rfl
theorem sM_11 (g : Nat → ClassId) (a : Nat → Nat) (M : Mem) (f : Nat → Int32) : (wM g a M).set 11 (a 11, .inl (g 0, 30, .inl f)) = wM g a (upA M 11 f) := rfl
theorem sM_12 (g : Nat → ClassId) (a : Nat → Nat) (M : Mem) (f : Nat → Int32) : (wM g a M).set 12 (a 12, .inl (g 0, 30, .inl f)) = wM g a (upA M 12 f) := rfl
theorem sM_13 (g : Nat → ClassId) (a : Nat → Nat) (M : Mem) (f : Nat → Int32) : (wM g a M).set 13 (a 13, .inl (g 0, 30, .inl f)) = wM g a (upA M 13 f) := rfl
theorem sM_14 (g : Nat → ClassId) (a : Nat → Nat) (M : Mem) (f : Nat → Int32) : (wM g a M).set 14 (a 14, .inl (g 1, 30, .inl f)) = wM g a (upA M 14 f) := rfl
theorem sM_15 (g : Nat → ClassId) (a : Nat → Nat) (M : Mem) (f : Nat → Int32) : (wM g a M).set 15 (a 15, .inl (g 0, 10, .inl f)) = wM g a (upA M 15 f) := rfl
theorem sM_16 (g : Nat → ClassId) (a : Nat → Nat) (M : Mem) (f : Nat → Int32) : (wM g a M).set 16 (a 16, .inl (g 0, 10, .inl f)) = wM g a (upA M 16 f) := rfl
theorem sM_17 (g : Nat → ClassId) (a : Nat → Nat) (M : Mem) (f : Nat → Int32) : (wM g a M).set 17 (a 17, .inl (g 0, 10, .inl f)) = wM g a (upA M 17 f) := rfl
theorem wM_at {g : Nat → ClassId} {a : Nat → Nat} {M : Mem} {i : Nat} {q : Nat × va_E} (h : (wM g a M)[i]? = some q) : i < 18 ∧ q.1 = a i := by
  have h1 : ((wM g a M).map Prod.fst)[i]? = some q.1 := by rw [List.getElem?_map, h]; rfl
  rw [show (wM g a M).map Prod.fst = (List.range 18).map a from rfl, List.getElem?_map] at h1
  obtain ⟨z, hz, hq⟩ := Option.map_eq_some_iff.mp h1
  obtain ⟨hl, e1⟩ := List.getElem?_eq_some_iff.mp hz
  rw [List.length_range] at hl
  rw [List.getElem_range] at e1
  exact ⟨hl, by rw [← hq, e1]⟩
theorem wM_D {g : Nat → ClassId} {a : Nat → Nat} {M : Mem} (hJ : Inj a 18) : va_D (inA a 18) (wM g a M) := by
  refine ⟨fun i j x y hx hy e => ?_, fun k q hk => ?_⟩
  · obtain ⟨h1, e1⟩ := wM_at hx
    obtain ⟨h2, e2⟩ := wM_at hy
    exact hJ i j h1 h2 (by rw [← e1, ← e2, e])
  · obtain ⟨h1, e1⟩ := wM_at hk
    exact ⟨k, h1, e1⟩
theorem lt4 {k : Nat} (h : k < 4) : k = 0 ∨ k = 1 ∨ k = 2 ∨ k = 3 := by omega
theorem k4 {i : Int32} (h : ¬ (i < 0 ∨ 4 ≤ i.toNatClampNeg)) : i.toNatClampNeg < 4 := Nat.not_le.mp fun q => h (Or.inr q)
theorem aC_S (g : Nat → ClassId) (a : Nat → Nat) (M : Mem) {k : Nat} (h : k < 4) : (wC g a M)[9 + k]? = some (a (9 + k), .inr (6, [.ref (a (13 + k)), .int (M (9 + k) 1), .int (M (9 + k) 2)])) := by
  rcases lt4 h with rfl | rfl | rfl | rfl <;> rfl
theorem aC_T (g : Nat → ClassId) (a : Nat → Nat) (M : Mem) {k : Nat} (h : k < 4) : (wC g a M)[13 + k]? = some (a (13 + k), .inl (g 0, 80, .inl (M (13 + k)))) := by
  rcases lt4 h with rfl | rfl | rfl | rfl <;> rfl
theorem sC_S1 (g : Nat → ClassId) (a : Nat → Nat) (M : Mem) (v : Int32) {k : Nat} (h : k < 4) : (wC g a M).set (9 + k) (a (9 + k), .inr (6, ([.ref (a (13 + k)), .int (M (9 + k) 1), .int (M (9 + k) 2)] : List Value).set 1 (.int v))) = wC g a (up M (9 + k) 1 v) := by
  rcases lt4 h with rfl | rfl | rfl | rfl <;> rfl
theorem sC_S2 (g : Nat → ClassId) (a : Nat → Nat) (M : Mem) (v : Int32) {k : Nat} (h : k < 4) : (wC g a M).set (9 + k) (a (9 + k), .inr (6, ([.ref (a (13 + k)), .int (M (9 + k) 1), .int (M (9 + k) 2)] : List Value).set 2 (.int v))) = wC g a (up M (9 + k) 2 v) := by
  rcases lt4 h with rfl | rfl | rfl | rfl <;> rfl
theorem sC_T (g : Nat → ClassId) (a : Nat → Nat) (M : Mem) {k : Nat} (h : k < 4) (f : Nat → Int32) : (wC g a M).set (13 + k) (a (13 + k), .inl (g 0, 80, .inl f)) = wC g a (upA M (13 + k) f) := by
  rcases lt4 h with rfl | rfl | rfl | rfl <;> rfl

def Pw (D : va_G) (tys : List (ClassId × FieldType)) (w : va_W) (av : List Value) : Array Value → State → Prop := fun v U => v = av.toArray ∧ va_P D clL w U.heap ∧ va_K D clL tys U ∧ NW U
theorem Pw.blind {D : va_G} {tys : List (ClassId × FieldType)} {w : va_W} {av : List Value} : FrameBlind (Pw D tys w av) := fun a U g mk q => ⟨q.1, q.2.1, va_K.moved (u := U) (U := U.calling g mk a) (Vm.Alike.refl U.vm) q.2.2.1, NW.same (u := U) (U := U.calling g mk a) rfl q.2.2.2⟩
/-- a method that writes nothing -/
def RdQ (v : Value) : Array Value → State → Outcome → State → Prop := fun _ st o t => o = .returned (some v) ∧ t.heap = st.heap
def WrQ (D : va_G) (w' : va_W) (A : Nat → Prop) (v : Value) : Array Value → State → Outcome → State → Prop := fun _ st o t => o = .returned (some v) ∧ va_P D clL w' t.heap ∧ va_F A st t
def WvQ (D : va_G) (w' : va_W) (A : Nat → Prop) : Array Value → State → Outcome → State → Prop := fun _ st o t => o = .returned none ∧ va_P D clL w' t.heap ∧ va_F A st t
abbrev cW (y : MethodName) (b : ByteArray) (n : Nat) (r : Option FieldType) : List Cond := .code y b n r :: gT
abbrev rmv (f n : Nat) : Room := { frames := f, cells := 0, slots := 0, locals := n }
def Cx (p : Program) (s : State) (m : MethodId) (args : Array Value) (meth : Method) (c : Code) (cc : ByteArray) (nL : Nat) (rt : Option FieldType) (own : String) (D : va_G) (tys : List (ClassId × FieldType)) : Prop :=
  p.tables.exec = Jvm.exec ∧ c.code = cc ∧ meth.sig.returnType = rt ∧ c.maxLocals = nL ∧ s.vm.findClass own = some m.cls ∧ (∀ w ∈ gT, w.before args s = true) ∧ meth.locks = false ∧ va_K D clL tys s ∧ NW s
theorem met_in {l : Launch} {y : MethodName} {cc : ByteArray} {nL : Nat} {rt : Option FieldType} {rm : Room} {D : va_G} {tys : List (ClassId × FieldType)} {w : va_W} {av : List Value} {Qc : Array Value → State → Outcome → State → Prop} {free : Addr → Prop} (hy : plainName y.cls = true) (hsz : (lg_sl av).length ≤ nL)
    (body : ∀ (p : Program) (e : Env) (s : State) (m : MethodId) (args : Array Value) (below : List Frame) (meth : Method) (c : Code) (ls : Array Slot), Cx p s m args meth c cc nL rt y.cls D tys → va_P D clL w s.heap → lv_has ls nL (lv_args 0 av) → W p l e rm s m args below meth c s.heap [] 0 0 (MQ below Qc args s 0 0 free) (F0 m 0 ls [])) : Met l y (cW y cc nL rt) rm (Pw D tys w av) Qc 0 0 free := by
  refine Met.ofW (cc := cc) (maxL := nL) (ret := rt) hy rfl ?_
  intro p e s m args below meth c s₁ B hml hv
  obtain ⟨rfl, hP, hK, hN⟩ := hv
  have hts := atoms_spec (ws := cW y cc nL rt) B.pre
  have hl := lv_entry av (n := nL) hsz
  rw [lg_entry_eq]
  exact body p e s m av.toArray below meth c _ ⟨B.exec, B.bytes, B.returns, hml, findClass_of_methodNamed B.named, fun w hw => hts w (List.mem_cons_of_mem _ hw), B.notSynchronized, hK, hN⟩ hP hl
theorem gGood {y : MethodName} {b : ByteArray} {n : Nat} {r : Option FieldType} (h : Cond.code y b n r ∈ gT) : GoodIn gT (cW y b n r) := by
  intro w hw
  rcases List.mem_cons.mp hw with rfl | h1
  · exact ⟨h, good_of_word (List.mem_filter.mp h).2⟩
  · exact ⟨h1, good_of_word (List.mem_filter.mp h1).2⟩
abbrev okD (y : MethodName) (n : Nat) : Prop := y.cls ≠ "java/lang/invoke/MethodHandle" ∧ y.cls ≠ "java/lang/invoke/VarHandle" ∧ (parseMethodDescriptor y.desc).map (fun d => d.parameters.length) = some n
/-- what a call of a virtual method asks of the tables -/
def okV (y : MethodName) (b : ByteArray) (nL : Nat) (r : Option FieldType) (n : Nat) : Prop := Cond.code y b nL r ∈ gT ∧ Cond.instanceMethod y ∈ gT ∧ Cond.selects y.cls y y ∈ gT ∧ Cond.initialized y.cls ∈ gT ∧ okD y n
def okS (y : MethodName) (b : ByteArray) (nL : Nat) (r : Option FieldType) (n : Nat) : Prop := Cond.code y b nL r ∈ gT ∧ Cond.static y ∈ gT ∧ Cond.initialized y.cls ∈ gT ∧ okD y n
abbrev rmOk (rm R : Room) (nL : Nat) : Prop := rm.cells = 0 ∧ rm.slots = 0 ∧ rm.frames + 1 ≤ R.frames ∧ 8 + (nL + 11) + rm.locals ≤ R.locals
section GC
variable {p : Program} {l : Launch} {e : Env} {R : Room} {s : State} {m : MethodId} {args : Array Value} {below : List Frame} {meth : Method} {c : Code} {H : Heap} {locs : List Loc} {cells slots : Nat} {Q : State → Prop}
variable {cc : ByteArray} {nL : Nat} {rt : Option FieldType} {own : String} {D : va_G} {tys : List (ClassId × FieldType)} {pc : Nat} {ls : Array Slot} {rest st : List Value} {w w' : va_W} {A : Nat → Prop} {a : Array Value}
variable {y : MethodName} {bytes : ByteArray} {maxL n index : Nat} {ret : Option FieldType} {rm : Room} {Qc : Array Value → State → Outcome → State → Prop} {free : Addr → Prop} {b : Nat} {As : List Value}
theorem rV (C : Cx p s m args meth c cc nL rt own D tys) (hM : Met l y (cW y bytes maxL ret) rm (Pw D tys w (.ref b :: As)) Qc 0 0 free) (ok : okV y bytes maxL ret n) (hlk : Cond.methodLink own index y ∈ gT) (hP : va_P D clL w H) (q0 : Nat) {ci : Nat} {fs : List Value} {T : u_T} {N : Nat} (he : w[q0]? = some (b, .inr (ci, fs))) (hc : clL[ci]? = some (y.cls, T, N)) (hrm : rmOk rm R maxL) (hn : As.length = n) (hsz : ls.size = nL) (hst : st = As.reverse ++ .ref b :: rest) (h8 : (rest.map fun v => v.category).sum ≤ 8) (hdg : decode cc pc = .ok (.invokevirtual index, 3)) (hcs : cells ≤ R.cells ∧ slots ≤ R.slots) :
    va_Run p l e R s m args below meth c H locs cells slots 0 0 (F0 m pc ls st) rest (Qc (Value.ref b :: As).toArray) free := by
  obtain ⟨hx, hb, hr, hml, hown, ht, hlocks, hK, hN⟩ := C
  obtain ⟨o1, o2, o3, o4, o5⟩ := ok
  obtain ⟨r1, r2, r3, r4⟩ := hrm
  exact va_runV (Ts := gT) ⟨hx, hb, hml, hown, ht⟩ hM ⟨callB_of n ht (gGood o1) rfl r1 r2 (ht _ o4) (ht _ hlk) o5 ⟨r3, r4⟩, ht _ o2, ht _ o3⟩ ⟨Pw.blind, va_recv hK hP hc he, fun U hU hW => ⟨rfl, by rw [hU]; exact hP, va_K.moved hW.alike hK, NW.warm hW hN⟩⟩ rfl hn hsz hst (lv_room h8) hdg hcs
theorem rS (C : Cx p s m args meth c cc nL rt own D tys) (hM : Met l y (cW y bytes maxL ret) rm (Pw D tys w As) Qc 0 0 free) (ok : okS y bytes maxL ret n) (hlk : Cond.methodLink own index y ∈ gT) (hP : va_P D clL w H) (hrm : rmOk rm R maxL) (hn : As.length = n) (hsz : ls.size = nL) (hst : st = As.reverse ++ rest) (h8 : (rest.map fun v => v.category).sum ≤ 8) (hdg : decode cc pc = .ok (.invokestatic index, 3)) (hcs : cells ≤ R.cells ∧ slots ≤ R.slots) :
    va_Run p l e R s m args below meth c H locs cells slots 0 0 (F0 m pc ls st) rest (Qc As.toArray) free := by
  obtain ⟨hx, hb, hr, hml, hown, ht, hlocks, hK, hN⟩ := C
  obtain ⟨o1, o2, o4, o5⟩ := ok
  obtain ⟨r1, r2, r3, r4⟩ := hrm
  exact va_runS (Ts := gT) ⟨hx, hb, hml, hown, ht⟩ hM ⟨callB_of n ht (gGood o1) rfl r1 r2 (ht _ o4) (ht _ hlk) o5 ⟨r3, r4⟩, ht _ o2⟩ ⟨Pw.blind, fun U hU hW => ⟨rfl, by rw [hU]; exact hP, va_K.moved hW.alike hK, NW.warm hW hN⟩⟩ rfl hn hsz hst (lv_room h8) hdg hcs
theorem rSN (C : Cx p s m args meth c cc nL rt own D tys) (hM : Met l y (cW y bytes maxL ret) rm (Pw D tys w As) Qc 0 0 free) (ok : okS y bytes maxL ret n) (hlk : va_Nw (.methodLinkNest own index y "BreathSquare") s) (hP : va_P D clL w H) (hrm : rmOk rm R maxL) (hn : As.length = n) (hsz : ls.size = nL) (hst : st = As.reverse ++ rest) (h8 : (rest.map fun v => v.category).sum ≤ 8) (hdg : decode cc pc = .ok (.invokestatic index, 3)) (hcs : cells ≤ R.cells ∧ slots ≤ R.slots) :
    va_Run p l e R s m args below meth c H locs cells slots 0 0 (F0 m pc ls st) rest (Qc As.toArray) free := by
  obtain ⟨hx, hb, hr, hml, hown, ht, hlocks, hK, hN⟩ := C
  obtain ⟨o1, o2, o4, o5⟩ := ok
  obtain ⟨r1, r2, r3, r4⟩ := hrm
  exact va_runSN (Ts := gT) ⟨hx, hb, hml, hown, ht⟩ hM ⟨va_cnB n ht (gGood o1) rfl r1 r2 hlk (ht _ o4) o5 ⟨r3, r4⟩, ht _ o2, trivial⟩ ⟨Pw.blind, fun U hU hW => ⟨rfl, by rw [hU]; exact hP, va_K.moved hW.alike hK, NW.warm hW hN⟩⟩ rfl hn hsz hst (lv_room h8) hdg hcs
theorem kR {v : Value} (hr : va_Run p l e R s m args below meth c H locs cells slots 0 0 (F0 m pc ls st) rest (RdQ v a) nof) (kk : W p l e R s m args below meth c H locs cells slots Q (F0 m (pc + 3) ls (v :: rest))) : W p l e R s m args below meth c H locs cells slots Q (F0 m pc ls st) := by
  intro T hT X
  obtain ⟨v', st₀, t, T', L, h0, X', hL, e1, e2, ⟨hv, hh⟩, stp⟩ := hr T hT X
  cases hv
  obtain ⟨t2, a1, b1⟩ := kk T' (by rw [e1, hh, h0]) (Stand.forget X' (fun q h => (hL q h).elim))
  exact ⟨t2, stp t2 a1, b1⟩
theorem kW {v : Value} {H0 : Heap} (hr : va_Run p l e R s m args below meth c H locs cells slots 0 0 (F0 m pc ls st) rest (WrQ D w' A v a) A) (hS : va_S A H0 H locs) (kk : ∀ (H1 : Heap) (locs1 : List Loc), va_P D clL w' H1 → va_S A H0 H1 locs1 → W p l e R s m args below meth c H1 locs1 cells slots Q (F0 m (pc + 3) ls (v :: rest))) : W p l e R s m args below meth c H locs cells slots Q (F0 m pc ls st) := by
  intro T hT X
  obtain ⟨v', st₀, t, T', L, h0, X', hL, e1, e2, ⟨hv, hp, hz, hk⟩, stp⟩ := hr T hT X
  cases hv
  rw [h0] at hz hk
  obtain ⟨t2, a1, b1⟩ := kk T'.heap (locs ++ L) (by rw [e1]; exact hp)
    ⟨Nat.le_trans hS.1 (by rw [e1]; exact hz), fun q h1 h2 => by rw [e1, hk q (Nat.lt_of_lt_of_le h1 hS.1) h2]; exact hS.2.1 q h1 h2, fun q hq => by
      rcases List.mem_append.mp hq with h | h
      · exact hS.2.2 q h
      · exact hL q h⟩ T' rfl X'
  exact ⟨t2, stp t2 a1, b1⟩
theorem kWv {H0 : Heap} (hr : va_Run p l e R s m args below meth c H locs cells slots 0 0 (F0 m pc ls st) rest (WvQ D w' A a) A) (hS : va_S A H0 H locs) (kk : ∀ (H1 : Heap) (locs1 : List Loc), va_P D clL w' H1 → va_S A H0 H1 locs1 → W p l e R s m args below meth c H1 locs1 cells slots Q (F0 m (pc + 3) ls rest)) : W p l e R s m args below meth c H locs cells slots Q (F0 m pc ls st) := by
  intro T hT X
  obtain ⟨v', st₀, t, T', L, h0, X', hL, e1, e2, ⟨hv, hp, hz, hk⟩, stp⟩ := hr T hT X
  cases hv
  rw [h0] at hz hk
  obtain ⟨t2, a1, b1⟩ := kk T'.heap (locs ++ L) (by rw [e1]; exact hp)
    ⟨Nat.le_trans hS.1 (by rw [e1]; exact hz), fun q h1 h2 => by rw [e1, hk q (Nat.lt_of_lt_of_le h1 hS.1) h2]; exact hS.2.1 q h1 h2, fun q hq => by
      rcases List.mem_append.mp hq with h | h
      · exact hS.2.2 q h
      · exact hL q h⟩ T' rfl X'
  exact ⟨t2, stp t2 a1, b1⟩
variable {M : Mem}
/-- a store into a row of ints: the row is one of the world's -/
theorem ast (wf : Mem → va_W) (C : Cx p s m args meth c cc nL rt own D tys) (hP : va_P D clL (wf M) H) (hD : va_D A (wf M)) {H0 : Heap} (hS : va_S A H0 H locs) (k t0 : Nat) {cA : ClassId} {n : Nat} (he : (wf M)[k]? = some (b, .inl (cA, n, .inl (M k)))) (ht0 : tys[t0]? = some (cA, .int)) (hs : ∀ f : Nat → Int32, (wf M).set k (b, .inl (cA, n, .inl f)) = wf (upA M k f)) {i x : Int32} (hin : ¬ (i < 0 ∨ n ≤ i.toNatClampNeg)) (hdg : decode cc pc = .ok (.iastore, 1))
    (kk : ∀ (H1 : Heap) (locs1 : List Loc), va_P D clL (wf (up M k i.toNatClampNeg x)) H1 → va_S A H0 H1 locs1 → W p l e R s m args below meth c H1 locs1 cells slots Q (F0 m (pc + 1) ls rest)) : W p l e R s m args below meth c H locs cells slots Q (F0 m pc ls (.int x :: .int i :: .ref b :: rest)) := by
  obtain ⟨hx, hb, hr, hml, hown, ht, hlocks, hK, hN⟩ := C
  exact va_iast hx hb hK hP hD hS k t0 he ht0 hin hdg (fun H1 locs1 h1 _ h3 => kk H1 locs1 (by rw [hs] at h1; exact h1) h3)
theorem zst (wf : Mem → va_W) (C : Cx p s m args meth c cc nL rt own D tys) (hP : va_P D clL (wf M) H) (hD : va_D A (wf M)) {H0 : Heap} (hS : va_S A H0 H locs) (k t0 : Nat) {cA : ClassId} {n : Nat} (he : (wf M)[k]? = some (b, .inl (cA, n, .inl (M k)))) (ht0 : tys[t0]? = some (cA, .boolean)) (hs : ∀ f : Nat → Int32, (wf M).set k (b, .inl (cA, n, .inl f)) = wf (upA M k f)) {i x : Int32} (hx01 : vp_nar .boolean x = x) (hin : ¬ (i < 0 ∨ n ≤ i.toNatClampNeg)) (hdg : decode cc pc = .ok (.bastore, 1))
    (kk : ∀ (H1 : Heap) (locs1 : List Loc), va_P D clL (wf (up M k i.toNatClampNeg x)) H1 → va_S A H0 H1 locs1 → W p l e R s m args below meth c H1 locs1 cells slots Q (F0 m (pc + 1) ls rest)) : W p l e R s m args below meth c H locs cells slots Q (F0 m pc ls (.int x :: .int i :: .ref b :: rest)) := by
  obtain ⟨hx, hb, hr, hml, hown, ht, hlocks, hK, hN⟩ := C
  exact va_zast hx hb hK hP hD hS k t0 he ht0 hin hdg (fun H1 locs1 h1 _ h3 => kk H1 locs1 (by rw [hx01, hs] at h1; exact h1) h3)
/-- returns -/
theorem retR {v : Int32} (C : Cx p s m args meth c cc nL (some .int) own D tys) (hdg : decode cc pc = .ok (.ireturn, 1)) : W p l e R s m args below meth c s.heap [] 0 0 (MQ below (RdQ (.int v)) args s 0 0 nof) (F0 m pc ls [.int v]) := by
  obtain ⟨hx, hb, hr, hml, hown, ht, hlocks, hK, hN⟩ := C
  exact W.iret hx hb hr (fun t ht _ => ⟨rfl, ht⟩) (fun q h => by cases h) hdg hlocks
theorem retRz {v : Int32} (C : Cx p s m args meth c cc nL (some .boolean) own D tys) (hn : v = 0 ∨ v = 1) (hdg : decode cc pc = .ok (.ireturn, 1)) : W p l e R s m args below meth c s.heap [] 0 0 (MQ below (RdQ (.int v)) args s 0 0 nof) (F0 m pc ls [.int v]) := by
  obtain ⟨hx, hb, hr, hml, hown, ht, hlocks, hK, hN⟩ := C
  exact W.zret hx hb hr (by rcases hn with rfl | rfl <;> rfl) (fun t ht _ => ⟨rfl, ht⟩) (fun q h => by cases h) hdg hlocks
theorem retRl {v : Int64} (C : Cx p s m args meth c cc nL (some .long) own D tys) (hdg : decode cc pc = .ok (.lreturn, 1)) : W p l e R s m args below meth c s.heap [] 0 0 (MQ below (RdQ (.long v)) args s 0 0 nof) (F0 m pc ls [.long v]) := by
  obtain ⟨hx, hb, hr, hml, hown, ht, hlocks, hK, hN⟩ := C
  exact W.lret hx hb hr (fun t ht _ => ⟨rfl, ht⟩) (fun q h => by cases h) hdg hlocks
theorem retRa {v : Nat} {cn : String} (C : Cx p s m args meth c cc nL (some (.object cn)) own D tys) (hdg : decode cc pc = .ok (.areturn, 1)) : W p l e R s m args below meth c s.heap [] 0 0 (MQ below (RdQ (.ref v)) args s 0 0 nof) (F0 m pc ls [.ref v]) := by
  obtain ⟨hx, hb, hr, hml, hown, ht, hlocks, hK, hN⟩ := C
  exact W.aret hx hb hr (Or.inl ⟨_, rfl⟩) (Or.inr ⟨_, rfl⟩) (fun t ht _ => ⟨rfl, ht⟩) (fun q h => by cases h) hdg hlocks
theorem retW {v : Int32} (C : Cx p s m args meth c cc nL (some .int) own D tys) (hP : va_P D clL w H) (hS : va_S A s.heap H locs) (hdg : decode cc pc = .ok (.ireturn, 1)) : W p l e R s m args below meth c H locs 0 0 (MQ below (WrQ D w A (.int v)) args s 0 0 A) (F0 m pc ls [.int v]) := by
  obtain ⟨hx, hb, hr, hml, hown, ht, hlocks, hK, hN⟩ := C
  exact W.iret hx hb hr (fun t ht _ => ⟨rfl, by rw [ht]; exact hP, hS.F ht⟩) hS.2.2 hdg hlocks
theorem retWz {v : Int32} (C : Cx p s m args meth c cc nL (some .boolean) own D tys) (hn : v = 0 ∨ v = 1) (hP : va_P D clL w H) (hS : va_S A s.heap H locs) (hdg : decode cc pc = .ok (.ireturn, 1)) : W p l e R s m args below meth c H locs 0 0 (MQ below (WrQ D w A (.int v)) args s 0 0 A) (F0 m pc ls [.int v]) := by
  obtain ⟨hx, hb, hr, hml, hown, ht, hlocks, hK, hN⟩ := C
  exact W.zret hx hb hr (by rcases hn with rfl | rfl <;> rfl) (fun t ht _ => ⟨rfl, by rw [ht]; exact hP, hS.F ht⟩) hS.2.2 hdg hlocks
theorem retWl {v : Int64} (C : Cx p s m args meth c cc nL (some .long) own D tys) (hP : va_P D clL w H) (hS : va_S A s.heap H locs) (hdg : decode cc pc = .ok (.lreturn, 1)) : W p l e R s m args below meth c H locs 0 0 (MQ below (WrQ D w A (.long v)) args s 0 0 A) (F0 m pc ls [.long v]) := by
  obtain ⟨hx, hb, hr, hml, hown, ht, hlocks, hK, hN⟩ := C
  exact W.lret hx hb hr (fun t ht _ => ⟨rfl, by rw [ht]; exact hP, hS.F ht⟩) hS.2.2 hdg hlocks
theorem retWv (C : Cx p s m args meth c cc nL none own D tys) (hP : va_P D clL w H) (hS : va_S A s.heap H locs) (hdg : decode cc pc = .ok (.return_, 1)) : W p l e R s m args below meth c H locs 0 0 (MQ below (WvQ D w A) args s 0 0 A) (F0 m pc ls []) := by
  obtain ⟨hx, hb, hr, hml, hown, ht, hlocks, hK, hN⟩ := C
  exact W.vret hx hb hr (fun t ht _ => ⟨rfl, by rw [ht]; exact hP, hS.F ht⟩) hS.2.2 hdg hlocks
end GC
