def nm {α β : Type} (x : α) (k : α → β) : β := k x
theorem nms {α β : Type} {x : α} {k : α → β} {R : β} (h : nm x k = R) : ∃ y, y = x ∧ k y = R := ⟨x, rfl, h⟩
theorem nmr {α β : Type} {x y : α} {k : α → β} {R : β} (e : y = x) (h : nm x k = R) : k y = R := by rw [e]; exact h
theorem nos {α : Type} {R : α} {P : Prop} (h : (none : Option α) = some R) : P := nomatch h
abbrev inb (i : Int32) (n : Nat) : Prop := ¬ (i < 0 ∨ n ≤ i.toNatClampNeg)
abbrev rem32 (x y : Int32) : Int32 := x - x / y * y
theorem i32ne {x y : Int32} (h : ¬ x = y) : ¬ x.toInt = y.toInt := fun e => h (Int32.toInt_inj.mp e)
/-- the rows that heights are written into -/
def isH (q : Nat) : Prop := q = 28 ∨ q = 33 ∨ q = 35
theorem isH_28 : isH 28 := Or.inl rfl
theorem isH_33 : isH 33 := Or.inr (Or.inl rfl)
theorem isH_35 : isH 35 := Or.inr (Or.inr rfl)
theorem aC_H (g : Nat → ClassId) (a : Nat → Nat) (M : Mem) {q : Nat} (h : isH q) : (wC g a M)[q]? = some (a q, .inl (g 0, 30, .inl (M q))) := by
  rcases h with rfl | rfl | rfl <;> rfl
theorem sC_H (g : Nat → ClassId) (a : Nat → Nat) (M : Mem) {q : Nat} (h : isH q) (f : Nat → Int32) : (wC g a M).set q (a q, .inl (g 0, 30, .inl f)) = wC g a (upA M q f) := by
  rcases h with rfl | rfl | rfl <;> rfl
theorem met_inW {l : Launch} {y : MethodName} {cc : ByteArray} {nL : Nat} {rt : Option FieldType} {rm : Room} {D : va_G} {tys : List (ClassId × FieldType)} {w : va_W} {av : List Value} {Qc : Array Value → State → Outcome → State → Prop} {free A : Addr → Prop} (hy : plainName y.cls = true) (hsz : (lg_sl av).length ≤ nL)
    (body : ∀ (p : Program) (e : Env) (s : State) (m : MethodId) (args : Array Value) (below : List Frame) (meth : Method) (c : Code) (ls : Array Slot) (H : Heap) (locs : List Loc), Cx p s m args meth c cc nL rt y.cls D tys → va_P D clL w H → va_S A s.heap H locs → lv_has ls nL (lv_args 0 av) → W p l e rm s m args below meth c H locs 0 0 (MQ below Qc args s 0 0 free) (F0 m 0 ls [])) : Met l y (cW y cc nL rt) rm (Pw D tys w av) Qc 0 0 free :=
  met_in hy hsz (fun p e s m args below meth c ls C hP hl => body p e s m args below meth c ls s.heap [] C hP va_S.rf hl)
section GU
variable {p : Program} {l : Launch} {e : Env} {R : Room} {s : State} {m : MethodId} {args : Array Value} {below : List Frame} {meth : Method} {c : Code} {H : Heap} {locs : List Loc} {cells slots : Nat} {Q : State → Prop}
variable {cc : ByteArray} {nL : Nat} {rt : Option FieldType} {own : String} {D : va_G} {tys : List (ClassId × FieldType)} {pc : Nat} {ls : Array Slot} {rest st : List Value} {w : va_W}
variable {x y : MethodName} {bytes : ByteArray} {maxL n index : Nat} {ret : Option FieldType} {rm : Room} {Qc : Array Value → State → Outcome → State → Prop} {free : Addr → Prop} {b : Nat} {As : List Value} {Cr owner : String} {b0 : ByteArray} {m0 : Nat} {r0 : Option FieldType}
theorem rUg (C : Cx p s m args meth c cc nL rt own D tys) (hM : Met l y (cW y bytes maxL ret) rm (Pw D tys w (.ref b :: As)) Qc 0 0 free) (w1 : Cond.methodLink own index x ∈ gT) (w2 : Cond.sameMethod x.cls owner x.name x.desc ∈ gT) (w3 : Cond.selects Cr x y ∈ gT) (w4 : Cond.instanceMethod y ∈ gT) (w5 : Cond.initialized y.cls ∈ gT) (w6 : Cond.code y bytes maxL ret ∈ gT) (w7 : Cond.instanceMethod ⟨owner, x.name, x.desc⟩ ∈ gT) (w8 : Cond.code ⟨owner, x.name, x.desc⟩ b0 m0 r0 ∈ gT) (hd : owner ≠ "java/lang/invoke/MethodHandle" ∧ owner ≠ "java/lang/invoke/VarHandle" ∧ (parseMethodDescriptor x.desc).map (fun d => d.parameters.length) = some n) (hP : va_P D clL w H) (q0 : Nat) {ci : Nat} {fs : List Value} {T : u_T} {N : Nat} (he : w[q0]? = some (b, .inr (ci, fs))) (hc : clL[ci]? = some (Cr, T, N)) (hrm : rmOk rm R maxL) (hn : As.length = n) (hsz : ls.size = nL) (hst : st = As.reverse ++ .ref b :: rest) (h8 : (rest.map fun v => v.category).sum ≤ 8) (hdg : decode cc pc = .ok (.invokevirtual index, 3)) (hcs : cells ≤ R.cells ∧ slots ≤ R.slots) :
    va_Run p l e R s m args below meth c H locs cells slots 0 0 (F0 m pc ls st) rest (Qc (Value.ref b :: As).toArray) free := by
  obtain ⟨hx, hb, hr, hml, hown, ht, hlocks, hK, hN⟩ := C
  obtain ⟨r1, r2, r3, r4⟩ := hrm
  refine va_runU (Ts := gT) (C := Cr) (owner := owner) (n := n) (ret := ret) (bytes := bytes) (maxL := maxL) ⟨hx, hb, hml, hown, ht⟩ hM ⟨⟨r1, r2, r3, r4, pay_in ht (gGood w6), List.mem_cons_self⟩, ht _ w6, ht _ w5, ⟨hd.1, hd.2.1⟩, fun sig h => ?_, ht _ w1, ht _ w2, va_Decl.of (ht _ w7) (ht _ w8), ht _ w3, ht _ w4⟩ ⟨Pw.blind, va_recv hK hP hc he, fun U hU hW => ⟨rfl, by rw [hU]; exact hP, va_K.moved hW.alike hK, NW.warm hW hN⟩⟩ rfl hn hsz hst (lv_room h8) hdg hcs
  have h2 := hd.2.2
  rw [h] at h2
  exact (Option.some.inj h2).symm
theorem rPg (C : Cx p s m args meth c cc nL rt own D tys) (hM : Met l y (cW y bytes maxL ret) rm (Pw D tys w (.ref b :: As)) Qc 0 0 free) (w1 : Cond.methodLink own index y ∈ gT) (w2 : Cond.sameMethod y.cls y.cls y.name y.desc ∈ gT) (w3 : Cond.superclass own y.cls ∈ gT) (w4 : Cond.instanceMethod y ∈ gT) (w5 : Cond.initialized y.cls ∈ gT) (w6 : Cond.code y bytes maxL ret ∈ gT) (hd : y.name ≠ "<init>" ∧ (parseMethodDescriptor y.desc).map (fun d => d.parameters.length) = some n) (hP : va_P D clL w H) (q0 : Nat) {ci : Nat} {fs : List Value} {T : u_T} {N : Nat} (he : w[q0]? = some (b, .inr (ci, fs))) (hc : clL[ci]? = some (Cr, T, N)) (hrm : rmOk rm R maxL) (hn : As.length = n) (hsz : ls.size = nL) (hst : st = As.reverse ++ .ref b :: rest) (h8 : (rest.map fun v => v.category).sum ≤ 8) (hdg : decode cc pc = .ok (.invokespecial index, 3)) (hcs : cells ≤ R.cells ∧ slots ≤ R.slots) :
    va_Run p l e R s m args below meth c H locs cells slots 0 0 (F0 m pc ls st) rest (Qc (Value.ref b :: As).toArray) free := by
  obtain ⟨hx, hb, hr, hml, hown, ht, hlocks, hK, hN⟩ := C
  obtain ⟨r1, r2, r3, r4⟩ := hrm
  refine va_runSU (Ts := gT) (C := Cr) (n := n) (ret := ret) (bytes := bytes) (maxL := maxL) (hK.1 ci _ hc).2 ⟨hx, hb, hml, hown, ht⟩ hM ⟨⟨r1, r2, r3, r4, pay_in ht (gGood w6), List.mem_cons_self⟩, ht _ w1, ht _ w2, ht _ w3, ht _ w4, ht _ w5, ht _ w6, hd.1, fun sig h => ?_⟩ ⟨Pw.blind, va_recv hK hP hc he, fun U hU hW => ⟨rfl, by rw [hU]; exact hP, va_K.moved hW.alike hK, NW.warm hW hN⟩⟩ rfl hn hsz hst (lv_room h8) hdg hcs
  have h2 := hd.2
  rw [h] at h2
  exact (Option.some.inj h2).symm
end GU
theorem ok_X11_square : okV yX11_square cX11_square 8 (some .int) 4 := ⟨wd_261, wd_259, wd_260, wd_1, ⟨by decide, by decide, by decide⟩⟩
theorem ok_X11_ofStone : okV yX11_ofStone cX11_ofStone 3 (some .int) 2 := ⟨wd_318, wd_316, wd_317, wd_1, ⟨by decide, by decide, by decide⟩⟩
theorem ok_X11_month : okV yX11_month cX11_month 5 (some .int) 3 := ⟨wd_326, wd_324, wd_325, wd_1, ⟨by decide, by decide, by decide⟩⟩
theorem ok_X11_lift : okV yX11_lift cX11_lift 4 (some .int) 2 := ⟨wd_337, wd_335, wd_336, wd_1, ⟨by decide, by decide, by decide⟩⟩
theorem ok_X11_height : okV yX11_height cX11_height 3 (some .int) 2 := ⟨wd_341, wd_339, wd_340, wd_1, ⟨by decide, by decide, by decide⟩⟩
theorem ok_X11_rises : okV yX11_rises cX11_rises 3 (some .int) 2 := ⟨wd_365, wd_363, wd_364, wd_1, ⟨by decide, by decide, by decide⟩⟩
theorem ok_X11_way : okV yX11_way cX11_way 6 (some .int) 5 := ⟨wd_378, wd_376, wd_377, wd_1, ⟨by decide, by decide, by decide⟩⟩
theorem ok_X11_holds : okV yX11_holds cX11_holds 6 (some .int) 5 := ⟨wd_425, wd_423, wd_424, wd_1, ⟨by decide, by decide, by decide⟩⟩
theorem ok_X11_leastStep : okV yX11_leastStep cX11_leastStep 4 (some .int) 3 := ⟨wd_429, wd_427, wd_428, wd_1, ⟨by decide, by decide, by decide⟩⟩
theorem ok_X11_wedges : okV yX11_wedges cX11_wedges 3 (some .int) 2 := ⟨wd_445, wd_443, wd_444, wd_1, ⟨by decide, by decide, by decide⟩⟩
theorem ok_X11_best : okV yX11_best cX11_best 5 (some .int) 2 := ⟨wd_464, wd_462, wd_463, wd_1, ⟨by decide, by decide, by decide⟩⟩
theorem ok_X11_two : okV yX11_two cX11_two 4 (some .int) 2 := ⟨wd_479, wd_477, wd_478, wd_1, ⟨by decide, by decide, by decide⟩⟩
theorem ok_X11_oval : okV yX11_oval cX11_oval 5 (some .int) 3 := ⟨wd_496, wd_494, wd_495, wd_1, ⟨by decide, by decide, by decide⟩⟩
theorem ok_X11_depth : okV yX11_depth cX11_depth 3 (some .int) 2 := ⟨wd_513, wd_511, wd_512, wd_1, ⟨by decide, by decide, by decide⟩⟩
theorem ok_X11_pool : okV yX11_pool cX11_pool 3 (some .int) 1 := ⟨wd_543, wd_541, wd_542, wd_1, ⟨by decide, by decide, by decide⟩⟩
theorem ok_X11_drain : okV yX11_drain cX11_drain 6 (some .int) 3 := ⟨wd_553, wd_551, wd_552, wd_1, ⟨by decide, by decide, by decide⟩⟩
theorem ok_X11_statue : okV yX11_statue cX11_statue 5 (some .int) 3 := ⟨wd_567, wd_565, wd_566, wd_1, ⟨by decide, by decide, by decide⟩⟩
theorem ok_X11_nights : okV yX11_nights cX11_nights 5 (some .int) 3 := ⟨wd_577, wd_575, wd_576, wd_1, ⟨by decide, by decide, by decide⟩⟩
theorem ok_X11_reading : okV yX11_reading cX11_reading 4 (some .int) 3 := ⟨wd_592, wd_590, wd_591, wd_1, ⟨by decide, by decide, by decide⟩⟩
theorem ok_X11_back : okV yX11_back cX11_back 2 (some .int) 1 := ⟨wd_604, wd_602, wd_603, wd_1, ⟨by decide, by decide, by decide⟩⟩
theorem ok_X11_kinds : okV yX11_kinds cX11_kinds 2 (some .int) 1 := ⟨wd_612, wd_610, wd_611, wd_1, ⟨by decide, by decide, by decide⟩⟩
theorem ok_X11_sheet : okV yX11_sheet cX11_sheet 4 (some .int) 3 := ⟨wd_625, wd_623, wd_624, wd_1, ⟨by decide, by decide, by decide⟩⟩
theorem ok_X11_lose : okV yX11_lose cX11_lose 2 (some .int) 1 := ⟨wd_633, wd_631, wd_632, wd_1, ⟨by decide, by decide, by decide⟩⟩
theorem ok_X11_put : okV yX11_put cX11_put 5 (some .int) 3 := ⟨wd_641, wd_639, wd_640, wd_1, ⟨by decide, by decide, by decide⟩⟩
theorem ok_X11_cell : okV yX11_cell cX11_cell 6 (some .long) 3 := ⟨wd_654, wd_652, wd_653, wd_1, ⟨by decide, by decide, by decide⟩⟩
theorem ok_X11_copy : okV yX11_copy cX11_copy 8 (some .int) 5 := ⟨wd_659, wd_657, wd_658, wd_1, ⟨by decide, by decide, by decide⟩⟩
theorem ok_X11_tell : okV yX11_tell cX11_tell 2 (some .int) 1 := ⟨wd_666, wd_664, wd_665, wd_1, ⟨by decide, by decide, by decide⟩⟩
theorem ok_X11_tread : okV yX11_tread cX11_tread 2 (some .int) 1 := ⟨wd_700, wd_698, wd_699, wd_1, ⟨by decide, by decide, by decide⟩⟩
theorem ok_X11_as : okV yX11_as cX11_as 3 (some .int) 2 := ⟨wd_713, wd_711, wd_712, wd_1, ⟨by decide, by decide, by decide⟩⟩
theorem ok_X11_trace : okV yX11_trace cX11_trace 1 (some .int) 0 := ⟨wd_717, wd_715, wd_716, wd_1, ⟨by decide, by decide, by decide⟩⟩
theorem ok_X11_fault : okV yX11_fault cX11_fault 1 (some .int) 0 := ⟨wd_721, wd_719, wd_720, wd_1, ⟨by decide, by decide, by decide⟩⟩
theorem ok_X11_many : okV yX11_many cX11_many 2 (some .int) 1 := ⟨wd_725, wd_723, wd_724, wd_1, ⟨by decide, by decide, by decide⟩⟩
theorem ok_X11_refusalOf : okV yX11_refusalOf cX11_refusalOf 3 (some .int) 2 := ⟨wd_468, wd_467, ws_X11_refusalOf, wd_1, ⟨by decide, by decide, by decide⟩⟩
theorem ok_X11_failed : okV yX11_failed cX11_failed 2 (some .int) 1 := ⟨wd_282, wd_281, ws_X11_failed, wd_1, ⟨by decide, by decide, by decide⟩⟩
theorem ok_X11_isWithin : okS yX11_isWithin cX11_isWithin 3 (some .boolean) 3 := ⟨wd_267, wd_266, wd_1, ⟨by decide, by decide, by decide⟩⟩
theorem ok_X11_isMonth : okS yX11_isMonth cX11_isMonth 1 (some .boolean) 1 := ⟨wd_329, wd_328, wd_1, ⟨by decide, by decide, by decide⟩⟩
theorem ok_X11_isSheet : okS yX11_isSheet cX11_isSheet 1 (some .boolean) 1 := ⟨wd_264, wd_263, wd_1, ⟨by decide, by decide, by decide⟩⟩
theorem ok_X11_isSort : okS yX11_isSort cX11_isSort 1 (some .boolean) 1 := ⟨wd_270, wd_269, wd_1, ⟨by decide, by decide, by decide⟩⟩
theorem ok_X11_isApart : okS yX11_isApart cX11_isApart 1 (some .boolean) 1 := ⟨wd_381, wd_380, wd_1, ⟨by decide, by decide, by decide⟩⟩
theorem ok_X12_fails : okV yX12_fails cX12_fails 2 (some .int) 1 := ⟨wd_829, wd_828, ws_X12_fails, wd_13, ⟨by decide, by decide, by decide⟩⟩
theorem ok_X12_lost : okV yX12_lost cX12_lost 2 (some .long) 1 := ⟨wd_1021, wd_1020, ws_X12_lost, wd_13, ⟨by decide, by decide, by decide⟩⟩
theorem ok_X12_within : okS yX12_within cX12_within 3 (some .boolean) 3 := ⟨wd_818, wd_817, wd_13, ⟨by decide, by decide, by decide⟩⟩
theorem ok_X12_isSheet : okS yX12_isSheet cX12_isSheet 1 (some .boolean) 1 := ⟨wd_815, wd_814, wd_13, ⟨by decide, by decide, by decide⟩⟩
theorem ok_X12_isSort : okS yX12_isSort cX12_isSort 1 (some .boolean) 1 := ⟨wd_821, wd_820, wd_13, ⟨by decide, by decide, by decide⟩⟩
theorem ok_X12_against : okV yX12_against cX12_against 5 (some .int) 4 := ⟨wd_825, wd_824, ws_X12_against, wd_13, ⟨by decide, by decide, by decide⟩⟩
theorem ok_X12_all : okV yX12_all cX12_all 1 (some .int) 0 := ⟨wd_845, wd_844, ws_X12_all, wd_13, ⟨by decide, by decide, by decide⟩⟩
theorem ok_X12_isStone : okV yX12_isStone cX12_isStone 2 (some .boolean) 1 := ⟨wd_853, wd_852, ws_X12_isStone, wd_13, ⟨by decide, by decide, by decide⟩⟩
theorem ok_X12_isMonth : okS yX12_isMonth cX12_isMonth 1 (some .boolean) 1 := ⟨wd_860, wd_859, wd_13, ⟨by decide, by decide, by decide⟩⟩
theorem ok_X12_digit : okV yX12_digit cX12_digit 4 (some .int) 3 := ⟨wd_837, wd_836, ws_X12_digit, wd_13, ⟨by decide, by decide, by decide⟩⟩
theorem ok_X12_square : okV yX12_square cX12_square 8 (some .int) 4 := ⟨wd_812, wd_810, wd_811, wd_13, ⟨by decide, by decide, by decide⟩⟩
theorem ok_X12_readSquare : okV yX12_readSquare cX12_readSquare 4 (some .boolean) 1 := ⟨wd_833, wd_832, ws_X12_readSquare, wd_13, ⟨by decide, by decide, by decide⟩⟩
theorem ok_X12_readStone : okV yX12_readStone cX12_readStone 4 (some .boolean) 2 := ⟨wd_841, wd_840, ws_X12_readStone, wd_13, ⟨by decide, by decide, by decide⟩⟩
theorem ok_X12_ofStone : okV yX12_ofStone cX12_ofStone 3 (some .int) 2 := ⟨wd_849, wd_847, wd_848, wd_13, ⟨by decide, by decide, by decide⟩⟩
theorem ok_X12_month : okV yX12_month cX12_month 5 (some .int) 3 := ⟨wd_857, wd_855, wd_856, wd_13, ⟨by decide, by decide, by decide⟩⟩
theorem ok_X12_lift : okV yX12_lift cX12_lift 4 (some .int) 2 := ⟨wd_864, wd_862, wd_863, wd_13, ⟨by decide, by decide, by decide⟩⟩
theorem ok_X12_heightAs : okV yX12_heightAs cX12_heightAs 5 (some .int) 3 := ⟨wd_876, wd_875, ws_X12_heightAs, wd_13, ⟨by decide, by decide, by decide⟩⟩
theorem ok_X12_heightOf : okV yX12_heightOf cX12_heightOf 3 (some .int) 2 := ⟨wd_872, wd_871, ws_X12_heightOf, wd_13, ⟨by decide, by decide, by decide⟩⟩
theorem ok_X12_height : okV yX12_height cX12_height 3 (some .int) 2 := ⟨wd_868, wd_866, wd_867, wd_13, ⟨by decide, by decide, by decide⟩⟩
theorem ok_X12_rises : okV yX12_rises cX12_rises 6 (some .int) 2 := ⟨wd_880, wd_878, wd_879, wd_13, ⟨by decide, by decide, by decide⟩⟩
theorem ok_X12_beside : okV yX12_beside cX12_beside 5 (some .int) 2 := ⟨wd_893, wd_892, ws_X12_beside, wd_13, ⟨by decide, by decide, by decide⟩⟩
theorem ok_X12_size : okS yX12_size cX12_size 1 (some .int) 1 := ⟨wd_900, wd_899, wd_13, ⟨by decide, by decide, by decide⟩⟩
theorem ok_X12_isStep : okV yX12_isStep cX12_isStep 7 (some .boolean) 5 := ⟨wd_897, wd_896, ws_X12_isStep, wd_13, ⟨by decide, by decide, by decide⟩⟩
theorem ok_X12_findFar : okV yX12_findFar cX12_findFar 9 none 4 := ⟨wd_888, wd_887, ws_X12_findFar, wd_13, ⟨by decide, by decide, by decide⟩⟩
theorem ok_X12_way : okV yX12_way cX12_way 9 (some .int) 5 := ⟨wd_884, wd_882, wd_883, wd_13, ⟨by decide, by decide, by decide⟩⟩
theorem ok_X12_holds : okV yX12_holds cX12_holds 6 (some .int) 5 := ⟨wd_904, wd_902, wd_903, wd_13, ⟨by decide, by decide, by decide⟩⟩
theorem ok_X12_leastStep : okV yX12_leastStep cX12_leastStep 10 (some .int) 3 := ⟨wd_908, wd_906, wd_907, wd_13, ⟨by decide, by decide, by decide⟩⟩
theorem ok_X12_isPlace : okV yX12_isPlace cX12_isPlace 2 (some .boolean) 1 := ⟨wd_916, wd_915, ws_X12_isPlace, wd_13, ⟨by decide, by decide, by decide⟩⟩
theorem ok_X12_wedgesOf : okV yX12_wedgesOf cX12_wedgesOf 8 (some .int) 2 := ⟨wd_920, wd_919, ws_X12_wedgesOf, wd_13, ⟨by decide, by decide, by decide⟩⟩
theorem ok_X12_wedges : okV yX12_wedges cX12_wedges 3 (some .int) 2 := ⟨wd_912, wd_910, wd_911, wd_13, ⟨by decide, by decide, by decide⟩⟩
theorem ok_X12_best : okV yX12_best cX12_best 5 (some .int) 2 := ⟨wd_924, wd_922, wd_923, wd_13, ⟨by decide, by decide, by decide⟩⟩
theorem ok_X12_areApart : okV yX12_areApart cX12_areApart 3 (some .boolean) 2 := ⟨wd_932, wd_931, ws_X12_areApart, wd_13, ⟨by decide, by decide, by decide⟩⟩
theorem ok_X12_two : okV yX12_two cX12_two 9 (some .int) 2 := ⟨wd_928, wd_926, wd_927, wd_13, ⟨by decide, by decide, by decide⟩⟩
theorem ok_X12_apartOf : okV yX12_apartOf cX12_apartOf 9 (some .int) 3 := ⟨wd_940, wd_939, ws_X12_apartOf, wd_13, ⟨by decide, by decide, by decide⟩⟩
theorem ok_X12_oval : okV yX12_oval cX12_oval 10 (some .int) 3 := ⟨wd_936, wd_934, wd_935, wd_13, ⟨by decide, by decide, by decide⟩⟩
theorem ok_X12_isEdge : okV yX12_isEdge cX12_isEdge 2 (some .boolean) 1 := ⟨wd_952, wd_951, ws_X12_isEdge, wd_13, ⟨by decide, by decide, by decide⟩⟩
theorem ok_X12_findWater : okV yX12_findWater cX12_findWater 7 none 1 := ⟨wd_948, wd_947, ws_X12_findWater, wd_13, ⟨by decide, by decide, by decide⟩⟩
theorem ok_X12_depth : okV yX12_depth cX12_depth 3 (some .int) 2 := ⟨wd_944, wd_942, wd_943, wd_13, ⟨by decide, by decide, by decide⟩⟩
theorem ok_X12_poolOf : okV yX12_poolOf cX12_poolOf 4 (some .int) 1 := ⟨wd_960, wd_959, ws_X12_poolOf, wd_13, ⟨by decide, by decide, by decide⟩⟩
theorem ok_X12_pool : okV yX12_pool cX12_pool 2 (some .int) 1 := ⟨wd_956, wd_954, wd_955, wd_13, ⟨by decide, by decide, by decide⟩⟩
theorem ok_X12_drain : okV yX12_drain cX12_drain 8 (some .int) 3 := ⟨wd_964, wd_962, wd_963, wd_13, ⟨by decide, by decide, by decide⟩⟩
theorem ok_X12_areBeside : okV yX12_areBeside cX12_areBeside 4 (some .boolean) 2 := ⟨wd_972, wd_971, ws_X12_areBeside, wd_13, ⟨by decide, by decide, by decide⟩⟩
theorem ok_X12_statue : okV yX12_statue cX12_statue 5 (some .int) 3 := ⟨wd_968, wd_966, wd_967, wd_13, ⟨by decide, by decide, by decide⟩⟩
theorem ok_X12_apartNow : okV yX12_apartNow cX12_apartNow 4 (some .int) 0 := ⟨wd_980, wd_979, ws_X12_apartNow, wd_13, ⟨by decide, by decide, by decide⟩⟩
theorem ok_X12_goNight : okV yX12_goNight cX12_goNight 6 none 1 := ⟨wd_984, wd_983, ws_X12_goNight, wd_13, ⟨by decide, by decide, by decide⟩⟩
theorem ok_X12_nights : okV yX12_nights cX12_nights 5 (some .int) 3 := ⟨wd_976, wd_974, wd_975, wd_13, ⟨by decide, by decide, by decide⟩⟩
theorem ok_X12_reading : okV yX12_reading cX12_reading 4 (some .int) 3 := ⟨wd_988, wd_986, wd_987, wd_13, ⟨by decide, by decide, by decide⟩⟩
theorem ok_X12_back : okV yX12_back cX12_back 2 (some .int) 1 := ⟨wd_992, wd_990, wd_991, wd_13, ⟨by decide, by decide, by decide⟩⟩
theorem ok_X12_isKind : okV yX12_isKind cX12_isKind 4 (some .boolean) 2 := ⟨wd_1000, wd_999, ws_X12_isKind, wd_13, ⟨by decide, by decide, by decide⟩⟩
theorem ok_X12_kinds : okV yX12_kinds cX12_kinds 4 (some .int) 1 := ⟨wd_996, wd_994, wd_995, wd_13, ⟨by decide, by decide, by decide⟩⟩
theorem ok_X12_sheet : okV yX12_sheet cX12_sheet 5 (some .int) 3 := ⟨wd_1004, wd_1002, wd_1003, wd_13, ⟨by decide, by decide, by decide⟩⟩
theorem ok_X12_lose : okV yX12_lose cX12_lose 3 (some .int) 1 := ⟨wd_1008, wd_1006, wd_1007, wd_13, ⟨by decide, by decide, by decide⟩⟩
theorem ok_X12_put : okV yX12_put cX12_put 4 (some .int) 3 := ⟨wd_1012, wd_1010, wd_1011, wd_13, ⟨by decide, by decide, by decide⟩⟩
theorem ok_X12_cell : okV yX12_cell cX12_cell 4 (some .long) 3 := ⟨wd_1016, wd_1014, wd_1015, wd_13, ⟨by decide, by decide, by decide⟩⟩
theorem ok_X12_copy : okV yX12_copy cX12_copy 10 (some .int) 5 := ⟨wd_1025, wd_1023, wd_1024, wd_13, ⟨by decide, by decide, by decide⟩⟩
theorem ok_X12_begins : okV yX12_begins cX12_begins 2 none 1 := ⟨wd_1033, wd_1032, ws_X12_begins, wd_13, ⟨by decide, by decide, by decide⟩⟩
theorem ok_X12_tell : okV yX12_tell cX12_tell 3 (some .int) 1 := ⟨wd_1029, wd_1027, wd_1028, wd_13, ⟨by decide, by decide, by decide⟩⟩
theorem ok_X12_tread : okV yX12_tread cX12_tread 2 (some .int) 1 := ⟨wd_1037, wd_1035, wd_1036, wd_13, ⟨by decide, by decide, by decide⟩⟩
theorem ok_X12_as : okV yX12_as cX12_as 3 (some .int) 2 := ⟨wd_1041, wd_1039, wd_1040, wd_13, ⟨by decide, by decide, by decide⟩⟩
theorem ok_X12_trace : okV yX12_trace cX12_trace 1 (some .int) 0 := ⟨wd_1045, wd_1043, wd_1044, wd_13, ⟨by decide, by decide, by decide⟩⟩
theorem ok_X12_fault : okV yX12_fault cX12_fault 1 (some .int) 0 := ⟨wd_1049, wd_1047, wd_1048, wd_13, ⟨by decide, by decide, by decide⟩⟩
theorem ok_X12_many : okV yX12_many cX12_many 2 (some .int) 1 := ⟨wd_1053, wd_1051, wd_1052, wd_13, ⟨by decide, by decide, by decide⟩⟩
theorem ok_X2_nightsTill : okV yX2_nightsTill cX2_nightsTill 8 (some .int) 3 := ⟨wd_581, wd_579, wd_580, wd_10, ⟨by decide, by decide, by decide⟩⟩
theorem ok_X2_putInOrder : okV yX2_putInOrder cX2_putInOrder 5 none 1 := ⟨wd_588, wd_587, ws_X2_putInOrder, wd_10, ⟨by decide, by decide, by decide⟩⟩
theorem ok_X3_firstFault : okS yX3_firstFault cX3_firstFault 9 (some .int) 3 := ⟨wd_289, wd_288, wd_3, ⟨by decide, by decide, by decide⟩⟩
theorem ok_X3_fitsHead : okS yX3_fitsHead cX3_fitsHead 2 (some .boolean) 2 := ⟨wd_292, wd_291, wd_3, ⟨by decide, by decide, by decide⟩⟩
theorem ok_X3_fitsRow : okS yX3_fitsRow cX3_fitsRow 4 (some .boolean) 3 := ⟨wd_296, wd_295, wd_3, ⟨by decide, by decide, by decide⟩⟩
theorem ok_X3_rowLength : okS yX3_rowLength cX3_rowLength 1 (some .int) 1 := ⟨wd_299, wd_298, wd_3, ⟨by decide, by decide, by decide⟩⟩
theorem ok_X3_kindBy : okS yX3_kindBy cX3_kindBy 1 (some .int) 1 := ⟨wd_302, wd_301, wd_3, ⟨by decide, by decide, by decide⟩⟩
theorem ok_X3_lay : okV yX3_lay cX3_lay 7 none 2 := ⟨wd_306, wd_304, wd_305, wd_3, ⟨by decide, by decide, by decide⟩⟩
theorem ok_X3_isBare : okV yX3_isBare cX3_isBare 1 (some .boolean) 0 := ⟨wd_333, wd_331, wd_332, wd_3, ⟨by decide, by decide, by decide⟩⟩
theorem ok_X3_stones : okV yX3_stones cX3_stones 1 (some .int) 0 := ⟨wd_314, wd_312, wd_313, wd_3, ⟨by decide, by decide, by decide⟩⟩
theorem ok_X3_has : okV yX3_has cX3_has 2 (some .boolean) 1 := ⟨wd_322, wd_320, wd_321, wd_3, ⟨by decide, by decide, by decide⟩⟩
theorem ok_X3_hasStall : okV yX3_hasStall cX3_hasStall 2 (some .boolean) 1 := ⟨wd_449, wd_447, wd_448, wd_3, ⟨by decide, by decide, by decide⟩⟩
theorem ok_X3_isAtEdge : okV yX3_isAtEdge cX3_isAtEdge 2 (some .boolean) 1 := ⟨wd_527, wd_525, wd_526, wd_3, ⟨by decide, by decide, by decide⟩⟩
theorem ok_X3_neighbour : okV yX3_neighbour cX3_neighbour 3 (some .int) 2 := ⟨wd_395, wd_393, wd_394, wd_3, ⟨by decide, by decide, by decide⟩⟩
theorem ok_X3_areBeside : okV yX3_areBeside cX3_areBeside 3 (some .boolean) 2 := ⟨wd_571, wd_569, wd_570, wd_3, ⟨by decide, by decide, by decide⟩⟩
theorem ok_X3_bodyOf : okV yX3_bodyOf cX3_bodyOf 2 (some (.object "BreathSquare$Stone")) 1 := ⟨wd_670, wd_668, wd_669, wd_3, ⟨by decide, by decide, by decide⟩⟩
theorem ok_X3_heightOf : okV yX3_heightOf cX3_heightOf 3 (some .int) 2 := ⟨wd_345, wd_343, wd_344, wd_3, ⟨by decide, by decide, by decide⟩⟩
theorem ok_X3_heightAs : okV yX3_heightAs cX3_heightAs 4 (some .int) 3 := ⟨wd_349, wd_347, wd_348, wd_3, ⟨by decide, by decide, by decide⟩⟩
theorem ok_X3_writeHeights : okV yX3_writeHeights cX3_writeHeights 4 none 2 := ⟨wd_390, wd_388, wd_389, wd_3, ⟨by decide, by decide, by decide⟩⟩
theorem ok_X3_highestMonth : okV yX3_highestMonth cX3_highestMonth 4 (some .int) 1 := ⟨wd_369, wd_367, wd_368, wd_3, ⟨by decide, by decide, by decide⟩⟩
theorem ok_X3_lowestMonth : okV yX3_lowestMonth cX3_lowestMonth 4 (some .int) 1 := ⟨wd_374, wd_372, wd_373, wd_3, ⟨by decide, by decide, by decide⟩⟩
theorem ok_X4_measure : okV yX4_measure cX4_measure 2 none 1 := ⟨wd_454, wd_452, wd_453, wd_8, ⟨by decide, by decide, by decide⟩⟩
theorem ok_X4_wedgesAt : okV yX4_wedgesAt cX4_wedgesAt 6 (some .int) 1 := ⟨wd_459, wd_457, wd_458, wd_8, ⟨by decide, by decide, by decide⟩⟩
theorem ok_X4_bestPlace : okV yX4_bestPlace cX4_bestPlace 3 (some .int) 0 := ⟨wd_472, wd_470, wd_471, wd_8, ⟨by decide, by decide, by decide⟩⟩
theorem ok_X4_findPair : okV yX4_findPair cX4_findPair 3 none 0 := ⟨wd_483, wd_481, wd_482, wd_8, ⟨by decide, by decide, by decide⟩⟩
theorem ok_X4_areClear : okV yX4_areClear cX4_areClear 3 (some .boolean) 2 := ⟨wd_487, wd_486, ws_X4_areClear, wd_8, ⟨by decide, by decide, by decide⟩⟩
theorem ok_X4_takePair : okV yX4_takePair cX4_takePair 4 none 3 := ⟨wd_492, wd_491, ws_X4_takePair, wd_8, ⟨by decide, by decide, by decide⟩⟩
theorem ok_X4_findOval : okV yX4_findOval cX4_findOval 5 none 1 := ⟨wd_500, wd_498, wd_499, wd_8, ⟨by decide, by decide, by decide⟩⟩
theorem ok_X4_sizeOf : okV yX4_sizeOf cX4_sizeOf 4 (some .int) 2 := ⟨wd_504, wd_503, ws_X4_sizeOf, wd_8, ⟨by decide, by decide, by decide⟩⟩
theorem ok_X4_spread : okV yX4_spread cX4_spread 6 (some .int) 2 := ⟨wd_508, wd_507, ws_X4_spread, wd_8, ⟨by decide, by decide, by decide⟩⟩
theorem ok_X5_forgetAll : okV yX5_forgetAll cX5_forgetAll 1 none 0 := ⟨wd_310, wd_308, wd_309, wd_11, ⟨by decide, by decide, by decide⟩⟩
theorem ok_X5_isFull : okV yX5_isFull cX5_isFull 1 (some .boolean) 0 := ⟨wd_596, wd_594, wd_595, wd_11, ⟨by decide, by decide, by decide⟩⟩
theorem ok_X5_take : okV yX5_take cX5_take 4 (some .int) 3 := ⟨wd_600, wd_598, wd_599, wd_11, ⟨by decide, by decide, by decide⟩⟩
theorem ok_X5_takeBack : okV yX5_takeBack cX5_takeBack 2 (some .int) 1 := ⟨wd_608, wd_606, wd_607, wd_11, ⟨by decide, by decide, by decide⟩⟩
theorem ok_X5_kindsOf : okV yX5_kindsOf cX5_kindsOf 4 (some .int) 1 := ⟨wd_616, wd_614, wd_615, wd_11, ⟨by decide, by decide, by decide⟩⟩
theorem ok_X5_areAllSo : okV yX5_areAllSo cX5_areAllSo 4 (some .boolean) 2 := ⟨wd_620, wd_619, ws_X5_areAllSo, wd_11, ⟨by decide, by decide, by decide⟩⟩
theorem ok_X6_isNothing : okV yX6_isNothing cX6_isNothing 1 (some .boolean) 0 := ⟨wd_278, wd_276, wd_277, wd_12, ⟨by decide, by decide, by decide⟩⟩
theorem ok_X6_faultAs : okV yX6_faultAs cX6_faultAs 2 (some .int) 1 := ⟨wd_274, wd_272, wd_273, wd_12, ⟨by decide, by decide, by decide⟩⟩
theorem ok_X6_hasCell : okV yX6_hasCell cX6_hasCell 2 (some .boolean) 1 := ⟨wd_646, wd_644, wd_645, wd_12, ⟨by decide, by decide, by decide⟩⟩
theorem ok_X6_hasCells : okV yX6_hasCells cX6_hasCells 3 (some .boolean) 2 := ⟨wd_286, wd_284, wd_285, wd_12, ⟨by decide, by decide, by decide⟩⟩
theorem ok_X6_renew : okV yX6_renew cX6_renew 4 none 2 := ⟨wd_629, wd_627, wd_628, wd_12, ⟨by decide, by decide, by decide⟩⟩
theorem ok_X6_clear : okV yX6_clear cX6_clear 2 (some .boolean) 0 := ⟨wd_637, wd_635, wd_636, wd_12, ⟨by decide, by decide, by decide⟩⟩
theorem ok_X6_write : okV yX6_write cX6_write 3 none 2 := ⟨wd_650, wd_648, wd_649, wd_12, ⟨by decide, by decide, by decide⟩⟩
theorem ok_X7_swell : okV yX7_swell cX7_swell 3 (some .int) 2 := ⟨wd_361, wd_351, wd_352, wd_4, ⟨by decide, by decide, by decide⟩⟩
theorem ok_X7_telling : okV yX7_telling cX7_telling 3 (some .int) 2 := ⟨wd_695, wd_672, wd_673, wd_4, ⟨by decide, by decide, by decide⟩⟩
theorem ok_X7_stoneTelling : okV yX7_stoneTelling cX7_stoneTelling 3 (some .int) 2 := ⟨wd_693, wd_692, wd_1059, wd_4, ⟨by decide, by decide, by decide⟩⟩
theorem ok_X7_trodden : okV yX7_trodden cX7_trodden 3 (some .int) 2 := ⟨wd_709, wd_702, wd_703, wd_4, ⟨by decide, by decide, by decide⟩⟩
theorem ok_X8_leave : okV yX8_leave cX8_leave 2 none 1 := ⟨wd_681, wd_679, wd_680, wd_2, ⟨by decide, by decide, by decide⟩⟩
theorem ok_X9_measure : okV yX9_measure cX9_measure 2 none 1 := ⟨wd_517, wd_515, wd_516, wd_9, ⟨by decide, by decide, by decide⟩⟩
theorem ok_X9_settle : okV yX9_settle cX9_settle 5 none 0 := ⟨wd_522, wd_520, wd_521, wd_9, ⟨by decide, by decide, by decide⟩⟩
theorem ok_X9_lowestBeside : okV yX9_lowestBeside cX9_lowestBeside 5 (some .int) 1 := ⟨wd_532, wd_531, ws_X9_lowestBeside, wd_9, ⟨by decide, by decide, by decide⟩⟩
theorem ok_X9_depthAt : okV yX9_depthAt cX9_depthAt 2 (some .int) 1 := ⟨wd_539, wd_537, wd_538, wd_9, ⟨by decide, by decide, by decide⟩⟩
theorem ok_X9_allDepths : okV yX9_allDepths cX9_allDepths 3 (some .int) 0 := ⟨wd_547, wd_545, wd_546, wd_9, ⟨by decide, by decide, by decide⟩⟩
theorem ok_X9_poolIfLifted : okV yX9_poolIfLifted cX9_poolIfLifted 4 (some .int) 2 := ⟨wd_561, wd_559, wd_560, wd_9, ⟨by decide, by decide, by decide⟩⟩
theorem ok_X9_bestLifted : okV yX9_bestLifted cX9_bestLifted 6 (some .int) 1 := ⟨wd_557, wd_555, wd_556, wd_9, ⟨by decide, by decide, by decide⟩⟩
theorem ok_X10_measure : okV yX10_measure cX10_measure 5 none 2 := ⟨wd_385, wd_383, wd_384, wd_7, ⟨by decide, by decide, by decide⟩⟩
theorem ok_X10_apartTo : okV yX10_apartTo cX10_apartTo 3 (some .int) 2 := ⟨wd_399, wd_398, ws_X10_apartTo, wd_7, ⟨by decide, by decide, by decide⟩⟩
theorem ok_X10_stepAt : okV yX10_stepAt cX10_stepAt 4 (some .int) 3 := ⟨wd_413, wd_412, ws_X10_stepAt, wd_7, ⟨by decide, by decide, by decide⟩⟩
theorem ok_X10_countStepsTo : okV yX10_countStepsTo cX10_countStepsTo 8 none 2 := ⟨wd_409, wd_407, wd_408, wd_7, ⟨by decide, by decide, by decide⟩⟩
theorem ok_X10_stoneBehind : okV yX10_stoneBehind cX10_stoneBehind 6 (some .int) 3 := ⟨wd_417, wd_415, wd_416, wd_7, ⟨by decide, by decide, by decide⟩⟩
theorem ok_X10_nextOnWay : okV yX10_nextOnWay cX10_nextOnWay 5 (some .int) 2 := ⟨wd_421, wd_420, ws_X10_nextOnWay, wd_7, ⟨by decide, by decide, by decide⟩⟩
theorem ok_X10_leastBetween : okV yX10_leastBetween cX10_leastBetween 7 (some .int) 2 := ⟨wd_433, wd_431, wd_432, wd_7, ⟨by decide, by decide, by decide⟩⟩
theorem ok_X10_leastByNeighbours : okV yX10_leastByNeighbours cX10_leastByNeighbours 5 (some .int) 1 := ⟨wd_438, wd_437, ws_X10_leastByNeighbours, wd_7, ⟨by decide, by decide, by decide⟩⟩
section SR
variable {p : Program} {l : Launch} {e : Env} {R : Room} {s : State} {m : MethodId} {args : Array Value} {below : List Frame} {meth : Method} {c : Code} {H : Heap} {locs : List Loc} {cells slots : Nat} {Q : State → Prop}
variable {cc : ByteArray} {nL : Nat} {rt : Option FieldType} {D : va_G} {g : Nat → ClassId} {a : Nat → Nat} {M : Mem} {pc : Nat} {ls : Array Slot} {rest : List Value} {A : Nat → Prop} {H0 : Heap}

variable {rm : Room} {Qc : Array Value → State → Outcome → State → Prop} {free : Addr → Prop} {As st : List Value}
theorem rP_13_X0_X7_telling_1 (C : Cx p s m args meth c cc nL rt RX0 D (tyL g)) (hM : Met l yX7_telling (cW yX7_telling cX7_telling 3 (some .int)) rm (Pw D (tyL g) (wC g a M) (.ref (a 19) :: As)) Qc 0 0 free) (hP : va_P D clL (wC g a M) H) (hrm : rmOk rm R 3) (hn : As.length = 2) (hsz : ls.size = nL) (hst : st = As.reverse ++ .ref (a 19) :: rest) (h8 : (rest.map fun v => v.category).sum ≤ 8) (hdg : decode cc pc = .ok (.invokespecial 13, 3)) (hcs : cells ≤ R.cells ∧ slots ≤ R.slots) :
    va_Run p l e R s m args below meth c H locs cells slots 0 0 (F0 m pc ls st) rest (Qc (Value.ref (a 19) :: As).toArray) free := rPg (Cr := RX0) C hM wd_682 wd_674 wd_55 wd_672 wd_4 wd_695 ⟨by decide, by decide⟩ hP 19 (aC_19 g a M) rfl hrm hn hsz hst h8 hdg hcs
theorem rP_13_X0_X7_telling_2 (C : Cx p s m args meth c cc nL rt RX0 D (tyL g)) (hM : Met l yX7_telling (cW yX7_telling cX7_telling 3 (some .int)) rm (Pw D (tyL g) (wC g a M) (.ref (a 20) :: As)) Qc 0 0 free) (hP : va_P D clL (wC g a M) H) (hrm : rmOk rm R 3) (hn : As.length = 2) (hsz : ls.size = nL) (hst : st = As.reverse ++ .ref (a 20) :: rest) (h8 : (rest.map fun v => v.category).sum ≤ 8) (hdg : decode cc pc = .ok (.invokespecial 13, 3)) (hcs : cells ≤ R.cells ∧ slots ≤ R.slots) :
    va_Run p l e R s m args below meth c H locs cells slots 0 0 (F0 m pc ls st) rest (Qc (Value.ref (a 20) :: As).toArray) free := rPg (Cr := RX1) C hM wd_682 wd_674 wd_55 wd_672 wd_4 wd_695 ⟨by decide, by decide⟩ hP 20 (aC_20 g a M) rfl hrm hn hsz hst h8 hdg hcs
theorem rP_17_X1_X0_telling_2 (C : Cx p s m args meth c cc nL rt RX1 D (tyL g)) (hM : Met l yX0_telling (cW yX0_telling cX0_telling 3 (some .int)) rm (Pw D (tyL g) (wC g a M) (.ref (a 20) :: As)) Qc 0 0 free) (hP : va_P D clL (wC g a M) H) (hrm : rmOk rm R 3) (hn : As.length = 2) (hsz : ls.size = nL) (hst : st = As.reverse ++ .ref (a 20) :: rest) (h8 : (rest.map fun v => v.category).sum ≤ 8) (hdg : decode cc pc = .ok (.invokespecial 17, 3)) (hcs : cells ≤ R.cells ∧ slots ≤ R.slots) :
    va_Run p l e R s m args below meth c H locs cells slots 0 0 (F0 m pc ls st) rest (Qc (Value.ref (a 20) :: As).toArray) free := rPg (Cr := RX1) C hM wd_687 wd_1055 wd_62 wd_676 wd_5 wd_677 ⟨by decide, by decide⟩ hP 20 (aC_20 g a M) rfl hrm hn hsz hst h8 hdg hcs
theorem rP_7_X1_X0_swell_2 (C : Cx p s m args meth c cc nL rt RX1 D (tyL g)) (hM : Met l yX0_swell (cW yX0_swell cX0_swell 3 (some .int)) rm (Pw D (tyL g) (wC g a M) (.ref (a 20) :: As)) Qc 0 0 free) (hP : va_P D clL (wC g a M) H) (hrm : rmOk rm R 3) (hn : As.length = 2) (hsz : ls.size = nL) (hst : st = As.reverse ++ .ref (a 20) :: rest) (h8 : (rest.map fun v => v.category).sum ≤ 8) (hdg : decode cc pc = .ok (.invokespecial 7, 3)) (hcs : cells ≤ R.cells ∧ slots ≤ R.slots) :
    va_Run p l e R s m args below meth c H locs cells slots 0 0 (F0 m pc ls st) rest (Qc (Value.ref (a 20) :: As).toArray) free := rPg (Cr := RX1) C hM wd_360 wd_1054 wd_62 wd_355 wd_5 wd_356 ⟨by decide, by decide⟩ hP 20 (aC_20 g a M) rfl hrm hn hsz hst h8 hdg hcs
theorem rU_21_X1_X7_stoneTelling_2 (C : Cx p s m args meth c cc nL rt RX1 D (tyL g)) (hM : Met l yX7_stoneTelling (cW yX7_stoneTelling cX7_stoneTelling 3 (some .int)) rm (Pw D (tyL g) (wC g a M) (.ref (a 20) :: As)) Qc 0 0 free) (hP : va_P D clL (wC g a M) H) (hrm : rmOk rm R 3) (hn : As.length = 2) (hsz : ls.size = nL) (hst : st = As.reverse ++ .ref (a 20) :: rest) (h8 : (rest.map fun v => v.category).sum ≤ 8) (hdg : decode cc pc = .ok (.invokevirtual 21, 3)) (hcs : cells ≤ R.cells ∧ slots ≤ R.slots) :
    va_Run p l e R s m args below meth c H locs cells slots 0 0 (F0 m pc ls st) rest (Qc (Value.ref (a 20) :: As).toArray) free := rUg (x := ⟨"BreathSquare$Frosty", "stoneTelling", "(ILBreathSquare$Trace;)I"⟩) (owner := "BreathSquare$Stone") (Cr := RX1) C hM wd_688 wd_689 wd_691 wd_692 wd_4 wd_693 wd_692 wd_693 ⟨by decide, by decide, by decide⟩ hP 20 (aC_20 g a M) rfl hrm hn hsz hst h8 hdg hcs
theorem rU_272_X11_X0_telling_1 (C : Cx p s m args meth c cc nL rt RX11 D (tyL g)) (hM : Met l yX0_telling (cW yX0_telling cX0_telling 3 (some .int)) rm (Pw D (tyL g) (wC g a M) (.ref (a 19) :: As)) Qc 0 0 free) (hP : va_P D clL (wC g a M) H) (hrm : rmOk rm R 3) (hn : As.length = 2) (hsz : ls.size = nL) (hst : st = As.reverse ++ .ref (a 19) :: rest) (h8 : (rest.map fun v => v.category).sum ≤ 8) (hdg : decode cc pc = .ok (.invokevirtual 272, 3)) (hcs : cells ≤ R.cells ∧ slots ≤ R.slots) :
    va_Run p l e R s m args below meth c H locs cells slots 0 0 (F0 m pc ls st) rest (Qc (Value.ref (a 19) :: As).toArray) free := rUg (x := yX7_telling) (owner := "BreathSquare$Stone") (Cr := RX0) C hM wd_671 wd_674 wd_675 wd_676 wd_5 wd_677 wd_672 wd_695 ⟨by decide, by decide, by decide⟩ hP 19 (aC_19 g a M) rfl hrm hn hsz hst h8 hdg hcs
theorem rU_272_X11_X1_telling_2 (C : Cx p s m args meth c cc nL rt RX11 D (tyL g)) (hM : Met l yX1_telling (cW yX1_telling cX1_telling 4 (some .int)) rm (Pw D (tyL g) (wC g a M) (.ref (a 20) :: As)) Qc 0 0 free) (hP : va_P D clL (wC g a M) H) (hrm : rmOk rm R 4) (hn : As.length = 2) (hsz : ls.size = nL) (hst : st = As.reverse ++ .ref (a 20) :: rest) (h8 : (rest.map fun v => v.category).sum ≤ 8) (hdg : decode cc pc = .ok (.invokevirtual 272, 3)) (hcs : cells ≤ R.cells ∧ slots ≤ R.slots) :
    va_Run p l e R s m args below meth c H locs cells slots 0 0 (F0 m pc ls st) rest (Qc (Value.ref (a 20) :: As).toArray) free := rUg (x := yX7_telling) (owner := "BreathSquare$Stone") (Cr := RX1) C hM wd_671 wd_674 wd_683 wd_684 wd_6 wd_685 wd_672 wd_695 ⟨by decide, by decide, by decide⟩ hP 20 (aC_20 g a M) rfl hrm hn hsz hst h8 hdg hcs
theorem rU_272_X11_X7_telling_0 (C : Cx p s m args meth c cc nL rt RX11 D (tyL g)) (hM : Met l yX7_telling (cW yX7_telling cX7_telling 3 (some .int)) rm (Pw D (tyL g) (wC g a M) (.ref (a 18) :: As)) Qc 0 0 free) (hP : va_P D clL (wC g a M) H) (hrm : rmOk rm R 3) (hn : As.length = 2) (hsz : ls.size = nL) (hst : st = As.reverse ++ .ref (a 18) :: rest) (h8 : (rest.map fun v => v.category).sum ≤ 8) (hdg : decode cc pc = .ok (.invokevirtual 272, 3)) (hcs : cells ≤ R.cells ∧ slots ≤ R.slots) :
    va_Run p l e R s m args below meth c H locs cells slots 0 0 (F0 m pc ls st) rest (Qc (Value.ref (a 18) :: As).toArray) free := rV C hM ok_X7_telling wd_671 hP 18 (aC_18 g a M) rfl hrm hn hsz hst h8 hdg hcs
theorem rU_278_X11_X1_trodden_2 (C : Cx p s m args meth c cc nL rt RX11 D (tyL g)) (hM : Met l yX1_trodden (cW yX1_trodden cX1_trodden 3 (some .int)) rm (Pw D (tyL g) (wC g a M) (.ref (a 20) :: As)) Qc 0 0 free) (hP : va_P D clL (wC g a M) H) (hrm : rmOk rm R 3) (hn : As.length = 2) (hsz : ls.size = nL) (hst : st = As.reverse ++ .ref (a 20) :: rest) (h8 : (rest.map fun v => v.category).sum ≤ 8) (hdg : decode cc pc = .ok (.invokevirtual 278, 3)) (hcs : cells ≤ R.cells ∧ slots ≤ R.slots) :
    va_Run p l e R s m args below meth c H locs cells slots 0 0 (F0 m pc ls st) rest (Qc (Value.ref (a 20) :: As).toArray) free := rUg (x := yX7_trodden) (owner := "BreathSquare$Stone") (Cr := RX1) C hM wd_701 wd_704 wd_706 wd_707 wd_6 wd_708 wd_702 wd_709 ⟨by decide, by decide, by decide⟩ hP 20 (aC_20 g a M) rfl hrm hn hsz hst h8 hdg hcs
theorem rU_278_X11_X7_trodden_0 (C : Cx p s m args meth c cc nL rt RX11 D (tyL g)) (hM : Met l yX7_trodden (cW yX7_trodden cX7_trodden 3 (some .int)) rm (Pw D (tyL g) (wC g a M) (.ref (a 18) :: As)) Qc 0 0 free) (hP : va_P D clL (wC g a M) H) (hrm : rmOk rm R 3) (hn : As.length = 2) (hsz : ls.size = nL) (hst : st = As.reverse ++ .ref (a 18) :: rest) (h8 : (rest.map fun v => v.category).sum ≤ 8) (hdg : decode cc pc = .ok (.invokevirtual 278, 3)) (hcs : cells ≤ R.cells ∧ slots ≤ R.slots) :
    va_Run p l e R s m args below meth c H locs cells slots 0 0 (F0 m pc ls st) rest (Qc (Value.ref (a 18) :: As).toArray) free := rV C hM ok_X7_trodden wd_701 hP 18 (aC_18 g a M) rfl hrm hn hsz hst h8 hdg hcs
theorem rU_278_X11_X7_trodden_1 (C : Cx p s m args meth c cc nL rt RX11 D (tyL g)) (hM : Met l yX7_trodden (cW yX7_trodden cX7_trodden 3 (some .int)) rm (Pw D (tyL g) (wC g a M) (.ref (a 19) :: As)) Qc 0 0 free) (hP : va_P D clL (wC g a M) H) (hrm : rmOk rm R 3) (hn : As.length = 2) (hsz : ls.size = nL) (hst : st = As.reverse ++ .ref (a 19) :: rest) (h8 : (rest.map fun v => v.category).sum ≤ 8) (hdg : decode cc pc = .ok (.invokevirtual 278, 3)) (hcs : cells ≤ R.cells ∧ slots ≤ R.slots) :
    va_Run p l e R s m args below meth c H locs cells slots 0 0 (F0 m pc ls st) rest (Qc (Value.ref (a 19) :: As).toArray) free := rUg (x := yX7_trodden) (owner := "BreathSquare$Stone") (Cr := RX0) C hM wd_701 wd_704 wd_705 wd_702 wd_4 wd_709 wd_702 wd_709 ⟨by decide, by decide, by decide⟩ hP 19 (aC_19 g a M) rfl hrm hn hsz hst h8 hdg hcs
theorem rU_7_X7_X7_stoneTelling_0 (C : Cx p s m args meth c cc nL rt RX7 D (tyL g)) (hM : Met l yX7_stoneTelling (cW yX7_stoneTelling cX7_stoneTelling 3 (some .int)) rm (Pw D (tyL g) (wC g a M) (.ref (a 18) :: As)) Qc 0 0 free) (hP : va_P D clL (wC g a M) H) (hrm : rmOk rm R 3) (hn : As.length = 2) (hsz : ls.size = nL) (hst : st = As.reverse ++ .ref (a 18) :: rest) (h8 : (rest.map fun v => v.category).sum ≤ 8) (hdg : decode cc pc = .ok (.invokevirtual 7, 3)) (hcs : cells ≤ R.cells ∧ slots ≤ R.slots) :
    va_Run p l e R s m args below meth c H locs cells slots 0 0 (F0 m pc ls st) rest (Qc (Value.ref (a 18) :: As).toArray) free := rV C hM ok_X7_stoneTelling wd_696 hP 18 (aC_18 g a M) rfl hrm hn hsz hst h8 hdg hcs
theorem rU_7_X7_X7_stoneTelling_1 (C : Cx p s m args meth c cc nL rt RX7 D (tyL g)) (hM : Met l yX7_stoneTelling (cW yX7_stoneTelling cX7_stoneTelling 3 (some .int)) rm (Pw D (tyL g) (wC g a M) (.ref (a 19) :: As)) Qc 0 0 free) (hP : va_P D clL (wC g a M) H) (hrm : rmOk rm R 3) (hn : As.length = 2) (hsz : ls.size = nL) (hst : st = As.reverse ++ .ref (a 19) :: rest) (h8 : (rest.map fun v => v.category).sum ≤ 8) (hdg : decode cc pc = .ok (.invokevirtual 7, 3)) (hcs : cells ≤ R.cells ∧ slots ≤ R.slots) :
    va_Run p l e R s m args below meth c H locs cells slots 0 0 (F0 m pc ls st) rest (Qc (Value.ref (a 19) :: As).toArray) free := rUg (x := yX7_stoneTelling) (owner := "BreathSquare$Stone") (Cr := RX0) C hM wd_696 wd_1056 wd_1057 wd_692 wd_4 wd_693 wd_692 wd_693 ⟨by decide, by decide, by decide⟩ hP 19 (aC_19 g a M) rfl hrm hn hsz hst h8 hdg hcs
theorem rU_7_X7_X7_stoneTelling_2 (C : Cx p s m args meth c cc nL rt RX7 D (tyL g)) (hM : Met l yX7_stoneTelling (cW yX7_stoneTelling cX7_stoneTelling 3 (some .int)) rm (Pw D (tyL g) (wC g a M) (.ref (a 20) :: As)) Qc 0 0 free) (hP : va_P D clL (wC g a M) H) (hrm : rmOk rm R 3) (hn : As.length = 2) (hsz : ls.size = nL) (hst : st = As.reverse ++ .ref (a 20) :: rest) (h8 : (rest.map fun v => v.category).sum ≤ 8) (hdg : decode cc pc = .ok (.invokevirtual 7, 3)) (hcs : cells ≤ R.cells ∧ slots ≤ R.slots) :
    va_Run p l e R s m args below meth c H locs cells slots 0 0 (F0 m pc ls st) rest (Qc (Value.ref (a 20) :: As).toArray) free := rUg (x := yX7_stoneTelling) (owner := "BreathSquare$Stone") (Cr := RX1) C hM wd_696 wd_1056 wd_1058 wd_692 wd_4 wd_693 wd_692 wd_693 ⟨by decide, by decide, by decide⟩ hP 20 (aC_20 g a M) rfl hrm hn hsz hst h8 hdg hcs
theorem rU_89_X3_X0_swell_1 (C : Cx p s m args meth c cc nL rt RX3 D (tyL g)) (hM : Met l yX0_swell (cW yX0_swell cX0_swell 3 (some .int)) rm (Pw D (tyL g) (wC g a M) (.ref (a 19) :: As)) Qc 0 0 free) (hP : va_P D clL (wC g a M) H) (hrm : rmOk rm R 3) (hn : As.length = 2) (hsz : ls.size = nL) (hst : st = As.reverse ++ .ref (a 19) :: rest) (h8 : (rest.map fun v => v.category).sum ≤ 8) (hdg : decode cc pc = .ok (.invokevirtual 89, 3)) (hcs : cells ≤ R.cells ∧ slots ≤ R.slots) :
    va_Run p l e R s m args below meth c H locs cells slots 0 0 (F0 m pc ls st) rest (Qc (Value.ref (a 19) :: As).toArray) free := rUg (x := yX7_swell) (owner := "BreathSquare$Stone") (Cr := RX0) C hM wd_350 wd_353 wd_354 wd_355 wd_5 wd_356 wd_351 wd_361 ⟨by decide, by decide, by decide⟩ hP 19 (aC_19 g a M) rfl hrm hn hsz hst h8 hdg hcs
theorem rU_89_X3_X1_swell_2 (C : Cx p s m args meth c cc nL rt RX3 D (tyL g)) (hM : Met l yX1_swell (cW yX1_swell cX1_swell 3 (some .int)) rm (Pw D (tyL g) (wC g a M) (.ref (a 20) :: As)) Qc 0 0 free) (hP : va_P D clL (wC g a M) H) (hrm : rmOk rm R 3) (hn : As.length = 2) (hsz : ls.size = nL) (hst : st = As.reverse ++ .ref (a 20) :: rest) (h8 : (rest.map fun v => v.category).sum ≤ 8) (hdg : decode cc pc = .ok (.invokevirtual 89, 3)) (hcs : cells ≤ R.cells ∧ slots ≤ R.slots) :
    va_Run p l e R s m args below meth c H locs cells slots 0 0 (F0 m pc ls st) rest (Qc (Value.ref (a 20) :: As).toArray) free := rUg (x := yX7_swell) (owner := "BreathSquare$Stone") (Cr := RX1) C hM wd_350 wd_353 wd_357 wd_358 wd_6 wd_359 wd_351 wd_361 ⟨by decide, by decide, by decide⟩ hP 20 (aC_20 g a M) rfl hrm hn hsz hst h8 hdg hcs
theorem rU_89_X3_X7_swell_0 (C : Cx p s m args meth c cc nL rt RX3 D (tyL g)) (hM : Met l yX7_swell (cW yX7_swell cX7_swell 3 (some .int)) rm (Pw D (tyL g) (wC g a M) (.ref (a 18) :: As)) Qc 0 0 free) (hP : va_P D clL (wC g a M) H) (hrm : rmOk rm R 3) (hn : As.length = 2) (hsz : ls.size = nL) (hst : st = As.reverse ++ .ref (a 18) :: rest) (h8 : (rest.map fun v => v.category).sum ≤ 8) (hdg : decode cc pc = .ok (.invokevirtual 89, 3)) (hcs : cells ≤ R.cells ∧ slots ≤ R.slots) :
    va_Run p l e R s m args below meth c H locs cells slots 0 0 (F0 m pc ls st) rest (Qc (Value.ref (a 18) :: As).toArray) free := rV C hM ok_X7_swell wd_350 hP 18 (aC_18 g a M) rfl hrm hn hsz hst h8 hdg hcs
end SR
