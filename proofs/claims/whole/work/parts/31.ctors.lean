/-- constructors: what they start from, what they leave -/
def PwZ (sz : Nat) (D : va_G) (tys : List (ClassId × FieldType)) (w : va_W) (av : List Value) : Array Value → State → Prop := fun v U => v = av.toArray ∧ U.heap.size = sz ∧ va_P D clL w U.heap ∧ va_K D clL tys U ∧ NW U
theorem PwZ.blind {sz : Nat} {D : va_G} {tys : List (ClassId × FieldType)} {w : va_W} {av : List Value} : FrameBlind (PwZ sz D tys w av) := fun a U g mk q => ⟨q.1, q.2.1, q.2.2.1, va_K.moved (u := U) (U := U.calling g mk a) (Vm.Alike.refl U.vm) q.2.2.2.1, NW.same (u := U) (U := U.calling g mk a) rfl q.2.2.2.2⟩
def CtQ (D : va_G) (wf : (Nat → Nat) → va_W) (E : (Nat → Nat) → Prop) (A : Nat → Prop) : Array Value → State → Outcome → State → Prop := fun _ st o t => o = .returned none ∧ (∃ q : Nat → Nat, E q ∧ va_P D clL (wf q) t.heap ∧ va_D A (wf q)) ∧ va_F A st t
theorem met_inC {l : Launch} {y : MethodName} {cc : ByteArray} {nL : Nat} {rt : Option FieldType} {rm : Room} {D : va_G} {tys : List (ClassId × FieldType)} {h0 : Nat} {e0 : va_E} {av : List Value} {sz mc ms : Nat} {Qc : Array Value → State → Outcome → State → Prop} {free : Addr → Prop} (hy : plainName y.cls = true) (hyn : y.name = "<init>") (hsz : (lg_sl av).length ≤ nL)
    (body : ∀ (p : Program) (e : Env) (s : State) (m : MethodId) (args : Array Value) (below : List Frame) (meth : Method) (c : Code) (ls : Array Slot), Cx p s m args meth c cc nL rt y.cls D tys → meth.name = "<init>" → s.heap.size = sz → va_P D clL [(h0, e0)] s.heap → va_D (va_A [(h0, e0)] sz) [(h0, e0)] → va_S (va_A [(h0, e0)] sz) s.heap s.heap [] → (∀ q : Nat, s.heap.size ≤ q → va_A [(h0, e0)] sz q) → lv_has ls nL (lv_args 0 av) → W p l e rm s m args below meth c s.heap [] 0 0 (MQ below Qc args s mc ms free) (F0 m 0 ls [])) : Met l y (cW y cc nL rt) rm (PwZ sz D tys [(h0, e0)] av) Qc mc ms free := by
  refine Met.ofW (cc := cc) (maxL := nL) (ret := rt) hy rfl ?_
  intro p e s m args below meth c s₁ B hml hv
  obtain ⟨rfl, hz, hP, hK, hN⟩ := hv
  have hts := atoms_spec (ws := cW y cc nL rt) B.pre
  have hl := lv_entry av (n := nL) hsz
  rw [lg_entry_eq]
  have hin : meth.name = "<init>" := by rw [← hyn]; exact (name_of_methodNamed B.named B.method).1
  have hD : va_D (va_A [(h0, e0)] sz) [(h0, e0)] := by
    refine ⟨fun i j x y hx hy _ => ?_, fun k q hk => va_A.in hk⟩
    have h1 : i < 1 := (List.getElem?_eq_some_iff.mp hx).1
    have h2 : j < 1 := (List.getElem?_eq_some_iff.mp hy).1
    omega
  exact body p e s m av.toArray below meth c _ ⟨B.exec, B.bytes, B.returns, hml, findClass_of_methodNamed B.named, fun w hw => hts w (List.mem_cons_of_mem _ hw), B.notSynchronized, hK, hN⟩ hin hz hP hD va_S.rf (fun q h => Or.inr (by rw [← hz]; exact h)) hl
def okI (y : MethodName) (b : ByteArray) (nL : Nat) (n : Nat) : Prop := Cond.code y b nL none ∈ gT ∧ Cond.instanceMethod y ∈ gT ∧ Cond.initialized y.cls ∈ gT ∧ okD y n ∧ y.name = "<init>"
abbrev rmOkI (rm R : Room) (nL mc ms : Nat) : Prop := rm.cells = mc ∧ rm.slots = ms ∧ rm.frames + 1 ≤ R.frames ∧ 8 + (nL + 11) + rm.locals ≤ R.locals
section GI
variable {p : Program} {l : Launch} {e : Env} {R : Room} {s : State} {m : MethodId} {args : Array Value} {below : List Frame} {meth : Method} {c : Code} {H : Heap} {locs : List Loc} {cells slots : Nat} {Q : State → Prop}
variable {cc : ByteArray} {nL : Nat} {rt : Option FieldType} {own : String} {D : va_G} {tys : List (ClassId × FieldType)} {pc : Nat} {ls : Array Slot} {rest st : List Value} {w : va_W} {a : Array Value} {mc ms : Nat}
variable {y : MethodName} {bytes : ByteArray} {maxL n index : Nat} {rm : Room} {Qc : Array Value → State → Outcome → State → Prop} {free : Addr → Prop} {b : Nat} {As : List Value}
theorem rI (C : Cx p s m args meth c cc nL rt own D tys) (hM : Met l y (cW y bytes maxL none) rm (PwZ H.size D tys w (.ref b :: As)) Qc mc ms free) (ok : okI y bytes maxL n) (hlk : Cond.methodLink own index y ∈ gT) (hP : va_P D clL w H) (hrm : rmOkI rm R maxL mc ms) (hn : As.length = n) (hsz : ls.size = nL) (hst : st = As.reverse ++ .ref b :: rest) (h8 : (rest.map fun v => v.category).sum ≤ 8) (hdg : decode cc pc = .ok (.invokespecial index, 3)) (hcs : cells + mc ≤ R.cells ∧ slots + ms ≤ R.slots) :
    va_Run p l e R s m args below meth c H locs cells slots mc ms (F0 m pc ls st) rest (Qc (Value.ref b :: As).toArray) free := by
  obtain ⟨hx, hb, hr, hml, hown, ht, hlocks, hK, hN⟩ := C
  obtain ⟨o1, o2, o4, o5, o6⟩ := ok
  obtain ⟨r1, r2, r3, r4⟩ := hrm
  exact va_runI (Ts := gT) ⟨hx, hb, hml, hown, ht⟩ hM ⟨callB_of n ht (gGood o1) rfl r1 r2 (ht _ o4) (ht _ hlk) o5 ⟨r3, r4⟩, o6, ht _ o2⟩ ⟨PwZ.blind, fun U hU hW => ⟨rfl, by rw [hU], by rw [hU]; exact hP, va_K.moved hW.alike hK, NW.warm hW hN⟩⟩ rfl hn hsz hst (lv_room h8) hdg hcs
theorem rIN (C : Cx p s m args meth c cc nL rt own D tys) (hM : Met l y (cW y bytes maxL none) rm (PwZ H.size D tys w (.ref b :: As)) Qc mc ms free) (ok : okI y bytes maxL n) (hlk : va_Nw (.methodLinkNest own index y "BreathSquare") s) (hP : va_P D clL w H) (hrm : rmOkI rm R maxL mc ms) (hn : As.length = n) (hsz : ls.size = nL) (hst : st = As.reverse ++ .ref b :: rest) (h8 : (rest.map fun v => v.category).sum ≤ 8) (hdg : decode cc pc = .ok (.invokespecial index, 3)) (hcs : cells + mc ≤ R.cells ∧ slots + ms ≤ R.slots) :
    va_Run p l e R s m args below meth c H locs cells slots mc ms (F0 m pc ls st) rest (Qc (Value.ref b :: As).toArray) free := by
  obtain ⟨hx, hb, hr, hml, hown, ht, hlocks, hK, hN⟩ := C
  obtain ⟨o1, o2, o4, o5, o6⟩ := ok
  obtain ⟨r1, r2, r3, r4⟩ := hrm
  exact va_runIN (Ts := gT) ⟨hx, hb, hml, hown, ht⟩ hM ⟨va_cnB n ht (gGood o1) rfl r1 r2 hlk (ht _ o4) o5 ⟨r3, r4⟩, o6, ht _ o2⟩ ⟨PwZ.blind, fun U hU hW => ⟨rfl, by rw [hU], by rw [hU]; exact hP, va_K.moved hW.alike hK, NW.warm hW hN⟩⟩ rfl hn hsz hst (lv_room h8) hdg hcs
theorem kC {wf : (Nat → Nat) → va_W} {E : (Nat → Nat) → Prop} {A : Nat → Prop} {h1 : Nat} {e1 : va_E} {ws wr : va_W} {H0 : Heap} (hr : va_Run p l e R s m args below meth c H locs cells slots mc ms (F0 m pc ls st) rest (CtQ D wf E (va_A [(h1, e1)] H.size) a) (va_A [(h1, e1)] H.size)) (hP : va_P D clL ws H) (hD : va_D A ws) (hS : va_S A H0 H locs) (hA : ∀ q, H0.size ≤ q → A q) (i : Nat) (isR : List Nat) (hC : ws[i]? = some (h1, e1)) (hR : isR.map (fun i => ws[i]?) = wr.map some) (hn : va_nd isR = true) (hdis : ∀ j ∈ isR, j ∉ [i])
    (kk : ∀ (q : Nat → Nat) (H1 : Heap) (locs1 : List Loc), E q → va_P D clL (wr ++ wf q) H1 → va_D A (wr ++ wf q) → va_S A H0 H1 locs1 → W p l e R s m args below meth c H1 locs1 (cells + mc) (slots + ms) Q (F0 m (pc + 3) ls rest)) : W p l e R s m args below meth c H locs cells slots Q (F0 m pc ls st) := by
  intro T hT X
  obtain ⟨v', st₀, t, T', L, h0, X', hL, g1, g2, ⟨hv, ⟨q, hE, hp, hd⟩, hz, hk⟩, stp⟩ := hr T hT X
  cases hv
  rw [h0] at hz hk
  have hC' : [i].map (fun i => ws[i]?) = ([(h1, e1)] : va_W).map some := by rw [List.map_singleton, hC]; rfl
  have hFc := va_free (wc := [(h1, e1)]) hD hS hA [i] hC'
  obtain ⟨j1, j2⟩ := va_join (wr := wr) (w1 := wf q) (H1 := T'.heap) hP hD [i] isR hC' hR hn hdis (fun x u v => by rw [g1]; exact hk x u v) hFc (by rw [g1]; exact hp) hd
  obtain ⟨t2, a1, b1⟩ := kk q T'.heap (locs ++ L) hE j1 j2
    ⟨Nat.le_trans hS.1 (by rw [g1]; exact hz), fun q h1 h2 => by rw [g1, hk q (Nat.lt_of_lt_of_le h1 hS.1) (fun z => h2 (hFc q z))]; exact hS.2.1 q h1 h2, fun q hq => by
      rcases List.mem_append.mp hq with h | h
      · exact hS.2.2 q h
      · exact hFc _ (hL q h)⟩ T' rfl X'
  exact ⟨t2, stp t2 a1, b1⟩
theorem retC {wf : (Nat → Nat) → va_W} {E : (Nat → Nat) → Prop} {A : Nat → Prop} (C : Cx p s m args meth c cc nL none own D tys) (q : Nat → Nat) (hE : E q) (hP : va_P D clL (wf q) H) (hD : va_D A (wf q)) (hS : va_S A s.heap H locs) (hdg : decode cc pc = .ok (.return_, 1)) : W p l e R s m args below meth c H locs cells slots (MQ below (CtQ D wf E A) args s cells slots A) (F0 m pc ls []) := by
  obtain ⟨hx, hb, hr, hml, hown, ht, hlocks, hK, hN⟩ := C
  exact W.vret hx hb hr (fun t ht _ => ⟨rfl, ⟨q, hE, by rw [ht]; exact hP, hD⟩, hS.F ht⟩) hS.2.2 hdg hlocks
variable {g : Nat → ClassId} {A : Nat → Prop} {ws : va_W} {H0 : Heap}
theorem newI (C : Cx p s m args meth c cc nL rt own D (tyL g)) (hP : va_P D clL ws H) (hD : va_D A ws) (hS : va_S A H0 H locs) (hA : ∀ q, H0.size ≤ q → A q) {n : Int32} (N' : Nat) (hn : ¬ n < 0) (hN : n.toNatClampNeg = N') (hby : N' * 4 ≤ 536870912) (hcells : cells + 1 ≤ R.cells) (hslots : slots + N' ≤ R.slots) (hdg : decode cc pc = .ok (.newarray .int, 2))
    (kk : ∀ (q : Nat) (H1 : Heap), va_P D clL (ws ++ [(q, .inl (g 0, N', .inl (fun _ => 0)))]) H1 → va_D A (ws ++ [(q, .inl (g 0, N', .inl (fun _ => 0)))]) → va_S A H0 H1 locs → W p l e R s m args below meth c H1 locs (cells + 1) (slots + N') Q (F0 m (pc + 2) ls (.ref q :: rest))) : W p l e R s m args below meth c H locs cells slots Q (F0 m pc ls (.int n :: rest)) := by
  obtain ⟨hx, hb, hr, hml, hown, ht, hlocks, hK, hN'⟩ := C
  refine va_newa (atype := .int) (ty := .int) (a0 := (N', .inl (fun _ => 0))) hx hb (ht _ wd_103) rfl hK hP hD hS hA (fun _ => rfl) hn hN hby hcells hslots hdg (fun q cA H1 k1 k2 k3 k4 => ?_)
  have e1 := (k1.2 4 (cA, .int) rfl).2
  have e0 := (k1.2 0 (g 0, .int) rfl).2
  have e2 : g 0 = cA := Option.some.inj (e0.symm.trans e1)
  subst e2
  exact kk q H1 k2 k3 k4
theorem newZ (C : Cx p s m args meth c cc nL rt own D (tyL g)) (hP : va_P D clL ws H) (hD : va_D A ws) (hS : va_S A H0 H locs) (hA : ∀ q, H0.size ≤ q → A q) {n : Int32} (N' : Nat) (hn : ¬ n < 0) (hN : n.toNatClampNeg = N') (hby : N' * 1 ≤ 536870912) (hcells : cells + 1 ≤ R.cells) (hslots : slots + N' ≤ R.slots) (hdg : decode cc pc = .ok (.newarray .boolean, 2))
    (kk : ∀ (q : Nat) (H1 : Heap), va_P D clL (ws ++ [(q, .inl (g 1, N', .inl (fun _ => 0)))]) H1 → va_D A (ws ++ [(q, .inl (g 1, N', .inl (fun _ => 0)))]) → va_S A H0 H1 locs → W p l e R s m args below meth c H1 locs (cells + 1) (slots + N') Q (F0 m (pc + 2) ls (.ref q :: rest))) : W p l e R s m args below meth c H locs cells slots Q (F0 m pc ls (.int n :: rest)) := by
  obtain ⟨hx, hb, hr, hml, hown, ht, hlocks, hK, hN'⟩ := C
  refine va_newa (atype := .boolean) (ty := .boolean) (a0 := (N', .inl (fun _ => 0))) hx hb (ht _ wd_808) rfl hK hP hD hS hA (fun _ => rfl) hn hN hby hcells hslots hdg (fun q cA H1 k1 k2 k3 k4 => ?_)
  have e1 := (k1.2 4 (cA, .boolean) rfl).2
  have e0 := (k1.2 1 (g 1, .boolean) rfl).2
  have e2 : g 1 = cA := Option.some.inj (e0.symm.trans e1)
  subst e2
  exact kk q H1 k2 k3 k4
theorem newQ {C0 : String} {index : Nat} (t0 : Nat) (gi : Nat) (C : Cx p s m args meth c cc nL rt own D (tyL g)) (hty : (tyL g)[t0]? = some (g gi, .object C0)) (hcl : Cond.classLink own index C0 ∈ gT) (hao : va_AO C0 s) (hP : va_P D clL ws H) (hD : va_D A ws) (hS : va_S A H0 H locs) (hA : ∀ q, H0.size ≤ q → A q) {n : Int32} (N' : Nat) (hn : ¬ n < 0) (hN : n.toNatClampNeg = N') (hby : N' * 4 ≤ 536870912) (hcells : cells + 1 ≤ R.cells) (hslots : slots + N' ≤ R.slots) (hdg : decode cc pc = .ok (.anewarray index, 3))
    (kk : ∀ (q : Nat) (H1 : Heap), va_P D clL (ws ++ [(q, .inl (g gi, N', .inr (.inr (.inr (.inr (fun _ => none))))))]) H1 → va_D A (ws ++ [(q, .inl (g gi, N', .inr (.inr (.inr (.inr (fun _ => none))))))]) → va_S A H0 H1 locs → W p l e R s m args below meth c H1 locs (cells + 1) (slots + N') Q (F0 m (pc + 3) ls (.ref q :: rest))) : W p l e R s m args below meth c H locs cells slots Q (F0 m pc ls (.int n :: rest)) := by
  obtain ⟨hx, hb, hr, hml, hown, ht, hlocks, hK, hN'⟩ := C
  refine va_newq hx hb hown (ht _ hcl) hao hK hP hD hS hA hn hN hby hcells hslots hdg (fun q cA H1 k1 k2 k3 k4 => ?_)
  obtain ⟨_, _, _, _, _, e1⟩ := (k1.2 4 (cA, .object C0) rfl).2
  obtain ⟨_, _, _, _, _, e0⟩ := (hK.2 t0 _ hty).2
  have e2 : g gi = cA := Option.some.inj (e0.symm.trans e1)
  subst e2
  exact kk q H1 k2 k3 k4
end GI
/-- a row of references: only its own places count -/
theorem refc {D : va_G} {cl : List vw_C} {a n : Nat} {cA : ClassId} {f f' : Nat → Option Nat} {H : Heap} (h : va_at D cl (a, .inl (cA, n, .inr (.inr (.inr (.inr f))))) H) (e : ∀ j, j < n → f j = f' j) : va_at D cl (a, .inl (cA, n, .inr (.inr (.inr (.inr f'))))) H := by
  have h1 : H[a]? = some (vp_cell cA (n, .inr (.inr (.inr (.inr f))))) := h
  show H[a]? = some (vp_cell cA (n, .inr (.inr (.inr (.inr f')))))
  rw [h1, vp_cell_q, vp_cell_q]
  have h2 : (Array.ofFn (n := n) fun j => va_rf (f j.val)) = Array.ofFn (n := n) fun j => va_rf (f' j.val) := by
    congr 1
    funext j
    rw [e j.val j.isLt]
  unfold arrV
  rw [h2]
theorem va_P.refs {D : va_G} {cl : List vw_C} {ws : va_W} {H : Heap} (h : va_P D cl ws H) (i : Nat) {a n : Nat} {cA : ClassId} {f f' : Nat → Option Nat} (hi : ws[i]? = some (a, .inl (cA, n, .inr (.inr (.inr (.inr f)))))) (e : ∀ j, j < n → f j = f' j) : va_P D cl (ws.set i (a, .inl (cA, n, .inr (.inr (.inr (.inr f')))))) H := by
  intro k q hk
  rw [List.getElem?_set] at hk
  by_cases hki : i = k
  · rw [if_pos hki] at hk
    by_cases hl : i < ws.length
    · rw [if_pos hl] at hk
      obtain rfl := Option.some.inj hk
      exact refc (h i _ hi) e
    · rw [if_neg hl] at hk
      cases hk
  · rw [if_neg hki] at hk
    exact h k q hk

theorem ok_X8_init : okI yX8_init cX8_init 1 0 := ⟨wd_28, wd_27, wd_2, ⟨by decide, by decide, by decide⟩, rfl⟩
def nX8_init (g : Nat → ClassId) (h0 : Nat) (q : Nat → Nat) : va_W := [(h0, .inr (8, [.int 0]))]
set_option maxHeartbeats 4000000 in
set_option maxRecDepth 100000 in
theorem c_X8_init (l : Launch) (D : va_G) (g : Nat → ClassId) (h0 sz : Nat) : Met l yX8_init (cW yX8_init cX8_init 1 none) ({ frames := 1, cells := 0, slots := 0, locals := 20 } : Room) (PwZ sz D (tyL g) [(h0, .inr (8, [.int 0]))] [.ref h0]) (CtQ D (nX8_init g h0) (fun _ => True) (va_A [(h0, .inr (8, [.int 0]))] sz)) 0 0 (va_A [(h0, .inr (8, [.int 0]))] sz) := by
  refine met_inC (by decide) rfl (Nat.le_of_ble_eq_true rfl) ?_
  intro p e s m args below meth c ls C hin hsz hP hD hS hA hl
  have C : Cx p s m args meth c cX8_init 1 none RX8 D (tyL g) := C
  obtain ⟨hx, hb, hr, hml, hown, ht, hlocks, hK, hN⟩ := id C
  have hl : lv_has ls 1 [(0, .ref h0)] := hl
  refine lv_aload_n hx hb dX8_init_0 rfl (lv_at hl 0 rfl) ?_
  refine W.objInit hx hb hown (ht _ wd_29) (ht _ wd_22) (ht _ wd_23) rfl (by rw [hml]; exact hl.1) rfl dX8_init_1 (Nat.le_of_ble_eq_true rfl) (Nat.le_of_ble_eq_true rfl) ?_
  refine W.eq (g2 := F0 m 4 ls []) rfl ?_
  exact retC C (fun _ => 0) trivial hP hD hS dX8_init_4
theorem ok_X7_init : okI yX7_init cX7_init 1 0 := ⟨wd_46, wd_45, wd_4, ⟨by decide, by decide, by decide⟩, rfl⟩
def nX7_init (g : Nat → ClassId) (ci : Nat) (h0 : Nat) (q : Nat → Nat) : va_W := [(h0, .inr (ci, []))]
set_option maxHeartbeats 4000000 in
set_option maxRecDepth 100000 in
theorem c_X7_init (l : Launch) (D : va_G) (g : Nat → ClassId) (ci : Nat) (h0 sz : Nat) : Met l yX7_init (cW yX7_init cX7_init 1 none) ({ frames := 1, cells := 0, slots := 0, locals := 20 } : Room) (PwZ sz D (tyL g) [(h0, .inr (ci, []))] [.ref h0]) (CtQ D (nX7_init g ci h0) (fun _ => True) (va_A [(h0, .inr (ci, []))] sz)) 0 0 (va_A [(h0, .inr (ci, []))] sz) := by
  refine met_inC (by decide) rfl (Nat.le_of_ble_eq_true rfl) ?_
  intro p e s m args below meth c ls C hin hsz hP hD hS hA hl
  have C : Cx p s m args meth c cX7_init 1 none RX7 D (tyL g) := C
  obtain ⟨hx, hb, hr, hml, hown, ht, hlocks, hK, hN⟩ := id C
  have hl : lv_has ls 1 [(0, .ref h0)] := hl
  refine lv_aload_n hx hb dX7_init_0 rfl (lv_at hl 0 rfl) ?_
  refine W.objInit hx hb hown (ht _ wd_47) (ht _ wd_22) (ht _ wd_23) rfl (by rw [hml]; exact hl.1) rfl dX7_init_1 (Nat.le_of_ble_eq_true rfl) (Nat.le_of_ble_eq_true rfl) ?_
  refine W.eq (g2 := F0 m 4 ls []) rfl ?_
  exact retC C (fun _ => 0) trivial hP hD hS dX7_init_4
theorem ok_X0_init : okI yX0_init cX0_init 1 0 := ⟨wd_53, wd_52, wd_5, ⟨by decide, by decide, by decide⟩, rfl⟩
def nX0_init (g : Nat → ClassId) (ci : Nat) (h0 : Nat) (q : Nat → Nat) : va_W := [(h0, .inr (ci, []))]
set_option maxHeartbeats 4000000 in
set_option maxRecDepth 100000 in
theorem c_X0_init (l : Launch) (D : va_G) (g : Nat → ClassId) (ci : Nat) (h0 sz : Nat) : Met l yX0_init (cW yX0_init cX0_init 1 none) ({ frames := 2, cells := 0, slots := 0, locals := 40 } : Room) (PwZ sz D (tyL g) [(h0, .inr (ci, []))] [.ref h0]) (CtQ D (nX0_init g ci h0) (fun _ => True) (va_A [(h0, .inr (ci, []))] sz)) 0 0 (va_A [(h0, .inr (ci, []))] sz) := by
  refine met_inC (by decide) rfl (Nat.le_of_ble_eq_true rfl) ?_
  intro p e s m args below meth c ls C hin hsz hP hD hS hA hl
  have C : Cx p s m args meth c cX0_init 1 none RX0 D (tyL g) := C
  obtain ⟨hx, hb, hr, hml, hown, ht, hlocks, hK, hN⟩ := id C
  have hl : lv_has ls 1 [(0, .ref h0)] := hl
  refine lv_aload_n hx hb dX0_init_0 rfl (lv_at hl 0 rfl) ?_
  refine kC (wr := []) (rIN (rest := []) C (c_X7_init l D g ci h0 _) ok_X7_init (hN.m 4 rfl) (hP.sub (ws' := [(h0, .inr (ci, []))]) [0] rfl) ⟨rfl, rfl, Nat.le_of_ble_eq_true rfl, Nat.le_of_ble_eq_true rfl⟩ rfl hl.1 rfl (Nat.le_of_ble_eq_true rfl) dX0_init_1 ⟨Nat.le_of_ble_eq_true rfl, Nat.le_of_ble_eq_true rfl⟩) hP hD hS hA 0 [] rfl rfl (by decide) (by decide) (fun k1 H locs _ hP hD hS => ?_)
  have hP : va_P D clL [(h0, .inr (ci, []))] H := by have z := hP; exact z
  have hD : va_D (va_A [(h0, .inr (ci, []))] sz) [(h0, .inr (ci, []))] := by have z := hD; exact z
  exact retC C (fun _ => 0) trivial hP hD hS dX0_init_4
theorem ok_X1_init : okI yX1_init cX1_init 1 0 := ⟨wd_60, wd_59, wd_6, ⟨by decide, by decide, by decide⟩, rfl⟩
def nX1_init (g : Nat → ClassId) (ci : Nat) (h0 : Nat) (q : Nat → Nat) : va_W := [(h0, .inr (ci, []))]
set_option maxHeartbeats 4000000 in
set_option maxRecDepth 100000 in
theorem c_X1_init (l : Launch) (D : va_G) (g : Nat → ClassId) (ci : Nat) (h0 sz : Nat) : Met l yX1_init (cW yX1_init cX1_init 1 none) ({ frames := 3, cells := 0, slots := 0, locals := 60 } : Room) (PwZ sz D (tyL g) [(h0, .inr (ci, []))] [.ref h0]) (CtQ D (nX1_init g ci h0) (fun _ => True) (va_A [(h0, .inr (ci, []))] sz)) 0 0 (va_A [(h0, .inr (ci, []))] sz) := by
  refine met_inC (by decide) rfl (Nat.le_of_ble_eq_true rfl) ?_
  intro p e s m args below meth c ls C hin hsz hP hD hS hA hl
  have C : Cx p s m args meth c cX1_init 1 none RX1 D (tyL g) := C
  obtain ⟨hx, hb, hr, hml, hown, ht, hlocks, hK, hN⟩ := id C
  have hl : lv_has ls 1 [(0, .ref h0)] := hl
  refine lv_aload_n hx hb dX1_init_0 rfl (lv_at hl 0 rfl) ?_
  refine kC (wr := []) (rIN (rest := []) C (c_X0_init l D g ci h0 _) ok_X0_init (hN.m 6 rfl) (hP.sub (ws' := [(h0, .inr (ci, []))]) [0] rfl) ⟨rfl, rfl, Nat.le_of_ble_eq_true rfl, Nat.le_of_ble_eq_true rfl⟩ rfl hl.1 rfl (Nat.le_of_ble_eq_true rfl) dX1_init_1 ⟨Nat.le_of_ble_eq_true rfl, Nat.le_of_ble_eq_true rfl⟩) hP hD hS hA 0 [] rfl rfl (by decide) (by decide) (fun k1 H locs _ hP hD hS => ?_)
  have hP : va_P D clL [(h0, .inr (ci, []))] H := by have z := hP; exact z
  have hD : va_D (va_A [(h0, .inr (ci, []))] sz) [(h0, .inr (ci, []))] := by have z := hD; exact z
  exact retC C (fun _ => 0) trivial hP hD hS dX1_init_4
theorem ok_X6_init : okI yX6_init cX6_init 1 0 := ⟨wd_215, wd_214, wd_12, ⟨by decide, by decide, by decide⟩, rfl⟩
def nX6_init (g : Nat → ClassId) (h0 : Nat) (q : Nat → Nat) : va_W := [(h0, .inr (6, [.ref (q 1), .int (-1), .int 0])), ((q 1), .inl (g 0, 80, .inl (fun _ => 0)))]
set_option maxHeartbeats 4000000 in
set_option maxRecDepth 100000 in
theorem c_X6_init (l : Launch) (D : va_G) (g : Nat → ClassId) (h0 sz : Nat) : Met l yX6_init (cW yX6_init cX6_init 1 none) ({ frames := 1, cells := 1, slots := 80, locals := 20 } : Room) (PwZ sz D (tyL g) [(h0, .inr (6, [.null, .int 0, .int 0]))] [.ref h0]) (CtQ D (nX6_init g h0) (fun _ => True) (va_A [(h0, .inr (6, [.null, .int 0, .int 0]))] sz)) 1 80 (va_A [(h0, .inr (6, [.null, .int 0, .int 0]))] sz) := by
  refine met_inC (by decide) rfl (Nat.le_of_ble_eq_true rfl) ?_
  intro p e s m args below meth c ls C hin hsz hP hD hS hA hl
  have C : Cx p s m args meth c cX6_init 1 none RX6 D (tyL g) := C
  obtain ⟨hx, hb, hr, hml, hown, ht, hlocks, hK, hN⟩ := id C
  have hl : lv_has ls 1 [(0, .ref h0)] := hl
  refine lv_aload_n hx hb dX6_init_0 rfl (lv_at hl 0 rfl) ?_
  refine W.objInit hx hb hown (ht _ wd_216) (ht _ wd_22) (ht _ wd_23) rfl (by rw [hml]; exact hl.1) rfl dX6_init_1 (Nat.le_of_ble_eq_true rfl) (Nat.le_of_ble_eq_true rfl) ?_
  refine W.eq (g2 := F0 m 4 ls []) rfl ?_
  refine lv_aload_n hx hb dX6_init_4 rfl (lv_at hl 0 rfl) ?_
  refine lv_bipush (v := 80) hx hb dX6_init_5 (by decide) ?_
  refine newI C hP hD hS hA 80 (by decide) (by decide) (by decide) (Nat.le_of_ble_eq_true rfl) (Nat.le_of_ble_eq_true rfl) dX6_init_7 (fun q1 H hP hD hS => ?_)
  have hP : va_P D clL [(h0, .inr (6, [.null, .int 0, .int 0])), (q1, .inl (g 0, 80, .inl (fun _ => 0)))] H := hP
  have hD : va_D (va_A [(h0, .inr (6, [.null, .int 0, .int 0]))] sz) [(h0, .inr (6, [.null, .int 0, .int 0])), (q1, .inl (g 0, 80, .inl (fun _ => 0)))] := hD
  refine W.widen (k := 1) (n := 80) (Nat.le_of_ble_eq_true rfl) (Nat.le_of_ble_eq_true rfl) ?_
  refine va_putF (D := D) (ci := 6) (v := .ref q1) (ty := .array .int) (C := RX6) (T := TX6) (N := 3) hx hb ht giX6 tyX6 tyX6_ok nmX6 hown hK hP hD hS 0 rfl rfl 0 (by decide) (ht _ wd_217) (fun _ h => h) rfl hin rfl (by decide +kernel) rfl rfl (Nat.le_of_ble_eq_true rfl) dX6_init_9 (fun H locs hP hD hS => ?_)
  have hP : va_P D clL [(h0, .inr (6, [.ref q1, .int 0, .int 0])), (q1, .inl (g 0, 80, .inl (fun _ => 0)))] H := hP
  have hD : va_D (va_A [(h0, .inr (6, [.null, .int 0, .int 0]))] sz) [(h0, .inr (6, [.ref q1, .int 0, .int 0])), (q1, .inl (g 0, 80, .inl (fun _ => 0)))] := hD
  refine lv_aload_n hx hb dX6_init_12 rfl (lv_at hl 0 rfl) ?_
  refine lv_iconst (v := (-1)) hx hb dX6_init_13 (by decide) ?_
  refine va_put (D := D) (ci := 6) (v := .int (-1)) (ty := .int) (C := RX6) (T := TX6) (N := 3) hx hb ht giX6 tyX6 tyX6_ok nmX6 hown hK hP hD hS 0 rfl rfl 1 (by decide) (ht _ wd_220) (fun _ h => h) rfl (by decide +kernel) rfl rfl (Nat.le_of_ble_eq_true rfl) dX6_init_14 (fun H locs hP hD hS => ?_)
  have hP : va_P D clL [(h0, .inr (6, [.ref q1, .int (-1), .int 0])), (q1, .inl (g 0, 80, .inl (fun _ => 0)))] H := hP
  have hD : va_D (va_A [(h0, .inr (6, [.null, .int 0, .int 0]))] sz) [(h0, .inr (6, [.ref q1, .int (-1), .int 0])), (q1, .inl (g 0, 80, .inl (fun _ => 0)))] := hD
  exact retC C (fun k => [h0, q1].getD k 0) trivial hP hD hS dX6_init_17
theorem ok_X3_init : okI yX3_init cX3_init 1 0 := ⟨wd_39, wd_38, wd_3, ⟨by decide, by decide, by decide⟩, rfl⟩
def nX3_init (g : Nat → ClassId) (h0 : Nat) (q : Nat → Nat) : va_W := [(h0, .inr (3, [.ref (q 1), .ref (q 5), .ref (q 6), .ref (q 7), .ref (q 8), .ref (q 9), .ref (q 10), .ref (q 11), .int 0, .int 0])), ((q 1), .inl (g 3, 3, .inr (.inr (.inr (.inr (va_up (va_up (va_up (fun _ => none) 0 (some (q 2))) 1 (some (q 3))) 2 (some (q 4)))))))), ((q 2), .inr (7, [])), ((q 3), .inr (0, [])), ((q 4), .inr (1, [])), ((q 5), .inl (g 0, 30, .inl (fun _ => 0))), ((q 6), .inl (g 0, 30, .inl (fun _ => 0))), ((q 7), .inl (g 0, 30, .inl (fun _ => 0))), ((q 8), .inl (g 0, 30, .inl (fun _ => 0))), ((q 9), .inl (g 0, 30, .inl (fun _ => 0))), ((q 10), .inl (g 0, 12, .inl (fun _ => 0))), ((q 11), .inl (g 0, 12, .inl (fun _ => 0)))]
set_option maxHeartbeats 4000000 in
set_option maxRecDepth 100000 in
theorem c_X3_init (l : Launch) (D : va_G) (g : Nat → ClassId) (h0 sz : Nat) : Met l yX3_init (cW yX3_init cX3_init 1 none) ({ frames := 4, cells := 11, slots := 177, locals := 80 } : Room) (PwZ sz D (tyL g) [(h0, .inr (3, [.null, .null, .null, .null, .null, .null, .null, .null, .int 0, .int 0]))] [.ref h0]) (CtQ D (nX3_init g h0) (fun _ => True) (va_A [(h0, .inr (3, [.null, .null, .null, .null, .null, .null, .null, .null, .int 0, .int 0]))] sz)) 11 177 (va_A [(h0, .inr (3, [.null, .null, .null, .null, .null, .null, .null, .null, .int 0, .int 0]))] sz) := by
  refine met_inC (by decide) rfl (Nat.le_of_ble_eq_true rfl) ?_
  intro p e s m args below meth c ls C hin hsz hP hD hS hA hl
  have C : Cx p s m args meth c cX3_init 1 none RX3 D (tyL g) := C
  obtain ⟨hx, hb, hr, hml, hown, ht, hlocks, hK, hN⟩ := id C
  have hl : lv_has ls 1 [(0, .ref h0)] := hl
  refine lv_aload_n hx hb dX3_init_0 rfl (lv_at hl 0 rfl) ?_
  refine W.objInit hx hb hown (ht _ wd_40) (ht _ wd_22) (ht _ wd_23) rfl (by rw [hml]; exact hl.1) rfl dX3_init_1 (Nat.le_of_ble_eq_true rfl) (Nat.le_of_ble_eq_true rfl) ?_
  refine W.eq (g2 := F0 m 4 ls []) rfl ?_
  refine lv_aload_n hx hb dX3_init_4 rfl (lv_at hl 0 rfl) ?_
  refine lv_iconst (v := 3) hx hb dX3_init_5 (by decide) ?_
  refine newQ (C0 := "BreathSquare$Stone") 3 3 C rfl wd_41 hN.2.2.2.2.2.1 hP hD hS hA 3 (by decide) (by decide) (by decide) (Nat.le_of_ble_eq_true rfl) (Nat.le_of_ble_eq_true rfl) dX3_init_6 (fun q1 H hP hD hS => ?_)
  have hP : va_P D clL [(h0, .inr (3, [.null, .null, .null, .null, .null, .null, .null, .null, .int 0, .int 0])), (q1, .inl (g 3, 3, .inr (.inr (.inr (.inr (fun _ => none))))))] H := hP
  have hD : va_D (va_A [(h0, .inr (3, [.null, .null, .null, .null, .null, .null, .null, .null, .int 0, .int 0]))] sz) [(h0, .inr (3, [.null, .null, .null, .null, .null, .null, .null, .null, .int 0, .int 0])), (q1, .inl (g 3, 3, .inr (.inr (.inr (.inr (fun _ => none))))))] := hD
  refine W.widen (k := 1) (n := 3) (Nat.le_of_ble_eq_true rfl) (Nat.le_of_ble_eq_true rfl) ?_
  refine lv_dup hx hb dX3_init_9 rfl ?_
  refine lv_iconst (v := 0) hx hb dX3_init_10 (by decide) ?_
  refine va_new (ci := 7) (fs := []) (C := RX7) (T := TX7) (N := 0) hx hb ht giX7 tyX7 tyX7_ok hown (ht _ wd_41) (ht _ wd_43) (ht _ wd_4) hK hP hD hS hA rfl (fun j hj => by omega) (Nat.le_of_ble_eq_true rfl) (Nat.le_of_ble_eq_true rfl) dX3_init_11 (fun q2 H hP hD hS => ?_)
  have hP : va_P D clL [(h0, .inr (3, [.null, .null, .null, .null, .null, .null, .null, .null, .int 0, .int 0])), (q1, .inl (g 3, 3, .inr (.inr (.inr (.inr (fun _ => none)))))), (q2, .inr (7, []))] H := hP
  have hD : va_D (va_A [(h0, .inr (3, [.null, .null, .null, .null, .null, .null, .null, .null, .int 0, .int 0]))] sz) [(h0, .inr (3, [.null, .null, .null, .null, .null, .null, .null, .null, .int 0, .int 0])), (q1, .inl (g 3, 3, .inr (.inr (.inr (.inr (fun _ => none)))))), (q2, .inr (7, []))] := hD
  refine W.widen (k := 2) (n := 3) (Nat.le_of_ble_eq_true rfl) (Nat.le_of_ble_eq_true rfl) ?_
  refine lv_dup hx hb dX3_init_14 rfl ?_
  refine kC (wr := [(h0, .inr (3, [.null, .null, .null, .null, .null, .null, .null, .null, .int 0, .int 0])), (q1, .inl (g 3, 3, .inr (.inr (.inr (.inr (fun _ => none))))))]) (rIN (rest := [.ref q2, .int 0, .ref q1, .ref q1, .ref h0]) C (c_X7_init l D g 7 q2 _) ok_X7_init (hN.m 2 rfl) (hP.sub (ws' := [(q2, .inr (7, []))]) [2] rfl) ⟨rfl, rfl, Nat.le_of_ble_eq_true rfl, Nat.le_of_ble_eq_true rfl⟩ rfl hl.1 rfl (Nat.le_of_ble_eq_true rfl) dX3_init_15 ⟨Nat.le_of_ble_eq_true rfl, Nat.le_of_ble_eq_true rfl⟩) hP hD hS hA 2 [0, 1] rfl rfl (by decide) (by decide) (fun k3 H locs _ hP hD hS => ?_)
  have hP : va_P D clL [(h0, .inr (3, [.null, .null, .null, .null, .null, .null, .null, .null, .int 0, .int 0])), (q1, .inl (g 3, 3, .inr (.inr (.inr (.inr (fun _ => none)))))), (q2, .inr (7, []))] H := by have z := hP; exact z
  have hD : va_D (va_A [(h0, .inr (3, [.null, .null, .null, .null, .null, .null, .null, .null, .int 0, .int 0]))] sz) [(h0, .inr (3, [.null, .null, .null, .null, .null, .null, .null, .null, .int 0, .int 0])), (q1, .inl (g 3, 3, .inr (.inr (.inr (.inr (fun _ => none)))))), (q2, .inr (7, []))] := by have z := hD; exact z
  refine va_astq (r := (RX7, TX7, 0)) hx hb hK hP hD hS 1 3 2 7 rfl rfl rfl rfl (show ¬ ((0 : Int32) < 0 ∨ 3 ≤ (0 : Int32).toNatClampNeg) by decide) dX3_init_18 (fun H locs hP hD hS => ?_)
  have hP : va_P D clL [(h0, .inr (3, [.null, .null, .null, .null, .null, .null, .null, .null, .int 0, .int 0])), (q1, .inl (g 3, 3, .inr (.inr (.inr (.inr (va_up (fun _ => none) 0 (some q2))))))), (q2, .inr (7, []))] H := hP
  have hD : va_D (va_A [(h0, .inr (3, [.null, .null, .null, .null, .null, .null, .null, .null, .int 0, .int 0]))] sz) [(h0, .inr (3, [.null, .null, .null, .null, .null, .null, .null, .null, .int 0, .int 0])), (q1, .inl (g 3, 3, .inr (.inr (.inr (.inr (va_up (fun _ => none) 0 (some q2))))))), (q2, .inr (7, []))] := hD
  refine lv_dup hx hb dX3_init_19 rfl ?_
  refine lv_iconst (v := 1) hx hb dX3_init_20 (by decide) ?_
  refine va_new (ci := 0) (fs := []) (C := RX0) (T := TX0) (N := 0) hx hb ht giX0 tyX0 tyX0_ok hown (ht _ wd_49) (ht _ wd_50) (ht _ wd_5) hK hP hD hS hA rfl (fun j hj => by omega) (Nat.le_of_ble_eq_true rfl) (Nat.le_of_ble_eq_true rfl) dX3_init_21 (fun q4 H hP hD hS => ?_)
  have hP : va_P D clL [(h0, .inr (3, [.null, .null, .null, .null, .null, .null, .null, .null, .int 0, .int 0])), (q1, .inl (g 3, 3, .inr (.inr (.inr (.inr (va_up (fun _ => none) 0 (some q2))))))), (q2, .inr (7, [])), (q4, .inr (0, []))] H := hP
  have hD : va_D (va_A [(h0, .inr (3, [.null, .null, .null, .null, .null, .null, .null, .null, .int 0, .int 0]))] sz) [(h0, .inr (3, [.null, .null, .null, .null, .null, .null, .null, .null, .int 0, .int 0])), (q1, .inl (g 3, 3, .inr (.inr (.inr (.inr (va_up (fun _ => none) 0 (some q2))))))), (q2, .inr (7, [])), (q4, .inr (0, []))] := hD
  refine W.widen (k := 3) (n := 3) (Nat.le_of_ble_eq_true rfl) (Nat.le_of_ble_eq_true rfl) ?_
  refine lv_dup hx hb dX3_init_24 rfl ?_
  refine kC (wr := [(h0, .inr (3, [.null, .null, .null, .null, .null, .null, .null, .null, .int 0, .int 0])), (q1, .inl (g 3, 3, .inr (.inr (.inr (.inr (va_up (fun _ => none) 0 (some q2))))))), (q2, .inr (7, []))]) (rIN (rest := [.ref q4, .int 1, .ref q1, .ref q1, .ref h0]) C (c_X0_init l D g 0 q4 _) ok_X0_init (hN.m 3 rfl) (hP.sub (ws' := [(q4, .inr (0, []))]) [3] rfl) ⟨rfl, rfl, Nat.le_of_ble_eq_true rfl, Nat.le_of_ble_eq_true rfl⟩ rfl hl.1 rfl (Nat.le_of_ble_eq_true rfl) dX3_init_25 ⟨Nat.le_of_ble_eq_true rfl, Nat.le_of_ble_eq_true rfl⟩) hP hD hS hA 3 [0, 1, 2] rfl rfl (by decide) (by decide) (fun k5 H locs _ hP hD hS => ?_)
  have hP : va_P D clL [(h0, .inr (3, [.null, .null, .null, .null, .null, .null, .null, .null, .int 0, .int 0])), (q1, .inl (g 3, 3, .inr (.inr (.inr (.inr (va_up (fun _ => none) 0 (some q2))))))), (q2, .inr (7, [])), (q4, .inr (0, []))] H := by have z := hP; exact z
  have hD : va_D (va_A [(h0, .inr (3, [.null, .null, .null, .null, .null, .null, .null, .null, .int 0, .int 0]))] sz) [(h0, .inr (3, [.null, .null, .null, .null, .null, .null, .null, .null, .int 0, .int 0])), (q1, .inl (g 3, 3, .inr (.inr (.inr (.inr (va_up (fun _ => none) 0 (some q2))))))), (q2, .inr (7, [])), (q4, .inr (0, []))] := by have z := hD; exact z
  refine va_astqO (E := "BreathSquare$Stone") (r := (RX0, TX0, 0)) hx hb hK hP hD hS 1 3 3 0 rfl rfl hN.2.2.2.1 rfl rfl (show ¬ ((1 : Int32) < 0 ∨ 3 ≤ (1 : Int32).toNatClampNeg) by decide) dX3_init_28 (fun H locs hP hD hS => ?_)
  have hP : va_P D clL [(h0, .inr (3, [.null, .null, .null, .null, .null, .null, .null, .null, .int 0, .int 0])), (q1, .inl (g 3, 3, .inr (.inr (.inr (.inr (va_up (va_up (fun _ => none) 0 (some q2)) 1 (some q4))))))), (q2, .inr (7, [])), (q4, .inr (0, []))] H := hP
  have hD : va_D (va_A [(h0, .inr (3, [.null, .null, .null, .null, .null, .null, .null, .null, .int 0, .int 0]))] sz) [(h0, .inr (3, [.null, .null, .null, .null, .null, .null, .null, .null, .int 0, .int 0])), (q1, .inl (g 3, 3, .inr (.inr (.inr (.inr (va_up (va_up (fun _ => none) 0 (some q2)) 1 (some q4))))))), (q2, .inr (7, [])), (q4, .inr (0, []))] := hD
  refine lv_dup hx hb dX3_init_29 rfl ?_
  refine lv_iconst (v := 2) hx hb dX3_init_30 (by decide) ?_
  refine va_new (ci := 1) (fs := []) (C := RX1) (T := TX1) (N := 0) hx hb ht giX1 tyX1 tyX1_ok hown (ht _ wd_56) (ht _ wd_57) (ht _ wd_6) hK hP hD hS hA rfl (fun j hj => by omega) (Nat.le_of_ble_eq_true rfl) (Nat.le_of_ble_eq_true rfl) dX3_init_31 (fun q6 H hP hD hS => ?_)
  have hP : va_P D clL [(h0, .inr (3, [.null, .null, .null, .null, .null, .null, .null, .null, .int 0, .int 0])), (q1, .inl (g 3, 3, .inr (.inr (.inr (.inr (va_up (va_up (fun _ => none) 0 (some q2)) 1 (some q4))))))), (q2, .inr (7, [])), (q4, .inr (0, [])), (q6, .inr (1, []))] H := hP
  have hD : va_D (va_A [(h0, .inr (3, [.null, .null, .null, .null, .null, .null, .null, .null, .int 0, .int 0]))] sz) [(h0, .inr (3, [.null, .null, .null, .null, .null, .null, .null, .null, .int 0, .int 0])), (q1, .inl (g 3, 3, .inr (.inr (.inr (.inr (va_up (va_up (fun _ => none) 0 (some q2)) 1 (some q4))))))), (q2, .inr (7, [])), (q4, .inr (0, [])), (q6, .inr (1, []))] := hD
  refine W.widen (k := 4) (n := 3) (Nat.le_of_ble_eq_true rfl) (Nat.le_of_ble_eq_true rfl) ?_
  refine lv_dup hx hb dX3_init_34 rfl ?_
  refine kC (wr := [(h0, .inr (3, [.null, .null, .null, .null, .null, .null, .null, .null, .int 0, .int 0])), (q1, .inl (g 3, 3, .inr (.inr (.inr (.inr (va_up (va_up (fun _ => none) 0 (some q2)) 1 (some q4))))))), (q2, .inr (7, [])), (q4, .inr (0, []))]) (rIN (rest := [.ref q6, .int 2, .ref q1, .ref q1, .ref h0]) C (c_X1_init l D g 1 q6 _) ok_X1_init (hN.m 5 rfl) (hP.sub (ws' := [(q6, .inr (1, []))]) [4] rfl) ⟨rfl, rfl, Nat.le_of_ble_eq_true rfl, Nat.le_of_ble_eq_true rfl⟩ rfl hl.1 rfl (Nat.le_of_ble_eq_true rfl) dX3_init_35 ⟨Nat.le_of_ble_eq_true rfl, Nat.le_of_ble_eq_true rfl⟩) hP hD hS hA 4 [0, 1, 2, 3] rfl rfl (by decide) (by decide) (fun k7 H locs _ hP hD hS => ?_)
  have hP : va_P D clL [(h0, .inr (3, [.null, .null, .null, .null, .null, .null, .null, .null, .int 0, .int 0])), (q1, .inl (g 3, 3, .inr (.inr (.inr (.inr (va_up (va_up (fun _ => none) 0 (some q2)) 1 (some q4))))))), (q2, .inr (7, [])), (q4, .inr (0, [])), (q6, .inr (1, []))] H := by have z := hP; exact z
  have hD : va_D (va_A [(h0, .inr (3, [.null, .null, .null, .null, .null, .null, .null, .null, .int 0, .int 0]))] sz) [(h0, .inr (3, [.null, .null, .null, .null, .null, .null, .null, .null, .int 0, .int 0])), (q1, .inl (g 3, 3, .inr (.inr (.inr (.inr (va_up (va_up (fun _ => none) 0 (some q2)) 1 (some q4))))))), (q2, .inr (7, [])), (q4, .inr (0, [])), (q6, .inr (1, []))] := by have z := hD; exact z
  refine va_astqO (E := "BreathSquare$Stone") (r := (RX1, TX1, 0)) hx hb hK hP hD hS 1 3 4 1 rfl rfl hN.2.2.2.2.1 rfl rfl (show ¬ ((2 : Int32) < 0 ∨ 3 ≤ (2 : Int32).toNatClampNeg) by decide) dX3_init_38 (fun H locs hP hD hS => ?_)
  have hP : va_P D clL [(h0, .inr (3, [.null, .null, .null, .null, .null, .null, .null, .null, .int 0, .int 0])), (q1, .inl (g 3, 3, .inr (.inr (.inr (.inr (va_up (va_up (va_up (fun _ => none) 0 (some q2)) 1 (some q4)) 2 (some q6))))))), (q2, .inr (7, [])), (q4, .inr (0, [])), (q6, .inr (1, []))] H := hP
  have hD : va_D (va_A [(h0, .inr (3, [.null, .null, .null, .null, .null, .null, .null, .null, .int 0, .int 0]))] sz) [(h0, .inr (3, [.null, .null, .null, .null, .null, .null, .null, .null, .int 0, .int 0])), (q1, .inl (g 3, 3, .inr (.inr (.inr (.inr (va_up (va_up (va_up (fun _ => none) 0 (some q2)) 1 (some q4)) 2 (some q6))))))), (q2, .inr (7, [])), (q4, .inr (0, [])), (q6, .inr (1, []))] := hD
  refine va_putF (D := D) (ci := 3) (v := .ref q1) (ty := .array (.object "BreathSquare$Stone")) (C := RX3) (T := TX3) (N := 10) hx hb ht giX3 tyX3 tyX3_ok nmX3 hown hK hP hD hS 0 rfl rfl 0 (by decide) (ht _ wd_63) (fun _ h => h) rfl hin rfl (by decide +kernel) rfl rfl (Nat.le_of_ble_eq_true rfl) dX3_init_39 (fun H locs hP hD hS => ?_)
  have hP : va_P D clL [(h0, .inr (3, [.ref q1, .null, .null, .null, .null, .null, .null, .null, .int 0, .int 0])), (q1, .inl (g 3, 3, .inr (.inr (.inr (.inr (va_up (va_up (va_up (fun _ => none) 0 (some q2)) 1 (some q4)) 2 (some q6))))))), (q2, .inr (7, [])), (q4, .inr (0, [])), (q6, .inr (1, []))] H := hP
  have hD : va_D (va_A [(h0, .inr (3, [.null, .null, .null, .null, .null, .null, .null, .null, .int 0, .int 0]))] sz) [(h0, .inr (3, [.ref q1, .null, .null, .null, .null, .null, .null, .null, .int 0, .int 0])), (q1, .inl (g 3, 3, .inr (.inr (.inr (.inr (va_up (va_up (va_up (fun _ => none) 0 (some q2)) 1 (some q4)) 2 (some q6))))))), (q2, .inr (7, [])), (q4, .inr (0, [])), (q6, .inr (1, []))] := hD
  refine lv_aload_n hx hb dX3_init_42 rfl (lv_at hl 0 rfl) ?_
  refine lv_bipush (v := 30) hx hb dX3_init_43 (by decide) ?_
  refine newI C hP hD hS hA 30 (by decide) (by decide) (by decide) (Nat.le_of_ble_eq_true rfl) (Nat.le_of_ble_eq_true rfl) dX3_init_45 (fun q8 H hP hD hS => ?_)
  have hP : va_P D clL [(h0, .inr (3, [.ref q1, .null, .null, .null, .null, .null, .null, .null, .int 0, .int 0])), (q1, .inl (g 3, 3, .inr (.inr (.inr (.inr (va_up (va_up (va_up (fun _ => none) 0 (some q2)) 1 (some q4)) 2 (some q6))))))), (q2, .inr (7, [])), (q4, .inr (0, [])), (q6, .inr (1, [])), (q8, .inl (g 0, 30, .inl (fun _ => 0)))] H := hP
  have hD : va_D (va_A [(h0, .inr (3, [.null, .null, .null, .null, .null, .null, .null, .null, .int 0, .int 0]))] sz) [(h0, .inr (3, [.ref q1, .null, .null, .null, .null, .null, .null, .null, .int 0, .int 0])), (q1, .inl (g 3, 3, .inr (.inr (.inr (.inr (va_up (va_up (va_up (fun _ => none) 0 (some q2)) 1 (some q4)) 2 (some q6))))))), (q2, .inr (7, [])), (q4, .inr (0, [])), (q6, .inr (1, [])), (q8, .inl (g 0, 30, .inl (fun _ => 0)))] := hD
  refine W.widen (k := 5) (n := 33) (Nat.le_of_ble_eq_true rfl) (Nat.le_of_ble_eq_true rfl) ?_
  refine va_putF (D := D) (ci := 3) (v := .ref q8) (ty := .array .int) (C := RX3) (T := TX3) (N := 10) hx hb ht giX3 tyX3 tyX3_ok nmX3 hown hK hP hD hS 0 rfl rfl 1 (by decide) (ht _ wd_64) (fun _ h => h) rfl hin rfl (by decide +kernel) rfl rfl (Nat.le_of_ble_eq_true rfl) dX3_init_47 (fun H locs hP hD hS => ?_)
  have hP : va_P D clL [(h0, .inr (3, [.ref q1, .ref q8, .null, .null, .null, .null, .null, .null, .int 0, .int 0])), (q1, .inl (g 3, 3, .inr (.inr (.inr (.inr (va_up (va_up (va_up (fun _ => none) 0 (some q2)) 1 (some q4)) 2 (some q6))))))), (q2, .inr (7, [])), (q4, .inr (0, [])), (q6, .inr (1, [])), (q8, .inl (g 0, 30, .inl (fun _ => 0)))] H := hP
  have hD : va_D (va_A [(h0, .inr (3, [.null, .null, .null, .null, .null, .null, .null, .null, .int 0, .int 0]))] sz) [(h0, .inr (3, [.ref q1, .ref q8, .null, .null, .null, .null, .null, .null, .int 0, .int 0])), (q1, .inl (g 3, 3, .inr (.inr (.inr (.inr (va_up (va_up (va_up (fun _ => none) 0 (some q2)) 1 (some q4)) 2 (some q6))))))), (q2, .inr (7, [])), (q4, .inr (0, [])), (q6, .inr (1, [])), (q8, .inl (g 0, 30, .inl (fun _ => 0)))] := hD
  refine lv_aload_n hx hb dX3_init_50 rfl (lv_at hl 0 rfl) ?_
  refine lv_bipush (v := 30) hx hb dX3_init_51 (by decide) ?_
  refine newI C hP hD hS hA 30 (by decide) (by decide) (by decide) (Nat.le_of_ble_eq_true rfl) (Nat.le_of_ble_eq_true rfl) dX3_init_53 (fun q9 H hP hD hS => ?_)
  have hP : va_P D clL [(h0, .inr (3, [.ref q1, .ref q8, .null, .null, .null, .null, .null, .null, .int 0, .int 0])), (q1, .inl (g 3, 3, .inr (.inr (.inr (.inr (va_up (va_up (va_up (fun _ => none) 0 (some q2)) 1 (some q4)) 2 (some q6))))))), (q2, .inr (7, [])), (q4, .inr (0, [])), (q6, .inr (1, [])), (q8, .inl (g 0, 30, .inl (fun _ => 0))), (q9, .inl (g 0, 30, .inl (fun _ => 0)))] H := hP
  have hD : va_D (va_A [(h0, .inr (3, [.null, .null, .null, .null, .null, .null, .null, .null, .int 0, .int 0]))] sz) [(h0, .inr (3, [.ref q1, .ref q8, .null, .null, .null, .null, .null, .null, .int 0, .int 0])), (q1, .inl (g 3, 3, .inr (.inr (.inr (.inr (va_up (va_up (va_up (fun _ => none) 0 (some q2)) 1 (some q4)) 2 (some q6))))))), (q2, .inr (7, [])), (q4, .inr (0, [])), (q6, .inr (1, [])), (q8, .inl (g 0, 30, .inl (fun _ => 0))), (q9, .inl (g 0, 30, .inl (fun _ => 0)))] := hD
  refine W.widen (k := 6) (n := 63) (Nat.le_of_ble_eq_true rfl) (Nat.le_of_ble_eq_true rfl) ?_
  refine va_putF (D := D) (ci := 3) (v := .ref q9) (ty := .array .int) (C := RX3) (T := TX3) (N := 10) hx hb ht giX3 tyX3 tyX3_ok nmX3 hown hK hP hD hS 0 rfl rfl 2 (by decide) (ht _ wd_66) (fun _ h => h) rfl hin rfl (by decide +kernel) rfl rfl (Nat.le_of_ble_eq_true rfl) dX3_init_55 (fun H locs hP hD hS => ?_)
  have hP : va_P D clL [(h0, .inr (3, [.ref q1, .ref q8, .ref q9, .null, .null, .null, .null, .null, .int 0, .int 0])), (q1, .inl (g 3, 3, .inr (.inr (.inr (.inr (va_up (va_up (va_up (fun _ => none) 0 (some q2)) 1 (some q4)) 2 (some q6))))))), (q2, .inr (7, [])), (q4, .inr (0, [])), (q6, .inr (1, [])), (q8, .inl (g 0, 30, .inl (fun _ => 0))), (q9, .inl (g 0, 30, .inl (fun _ => 0)))] H := hP
  have hD : va_D (va_A [(h0, .inr (3, [.null, .null, .null, .null, .null, .null, .null, .null, .int 0, .int 0]))] sz) [(h0, .inr (3, [.ref q1, .ref q8, .ref q9, .null, .null, .null, .null, .null, .int 0, .int 0])), (q1, .inl (g 3, 3, .inr (.inr (.inr (.inr (va_up (va_up (va_up (fun _ => none) 0 (some q2)) 1 (some q4)) 2 (some q6))))))), (q2, .inr (7, [])), (q4, .inr (0, [])), (q6, .inr (1, [])), (q8, .inl (g 0, 30, .inl (fun _ => 0))), (q9, .inl (g 0, 30, .inl (fun _ => 0)))] := hD
  refine lv_aload_n hx hb dX3_init_58 rfl (lv_at hl 0 rfl) ?_
  refine lv_bipush (v := 30) hx hb dX3_init_59 (by decide) ?_
  refine newI C hP hD hS hA 30 (by decide) (by decide) (by decide) (Nat.le_of_ble_eq_true rfl) (Nat.le_of_ble_eq_true rfl) dX3_init_61 (fun q10 H hP hD hS => ?_)
  have hP : va_P D clL [(h0, .inr (3, [.ref q1, .ref q8, .ref q9, .null, .null, .null, .null, .null, .int 0, .int 0])), (q1, .inl (g 3, 3, .inr (.inr (.inr (.inr (va_up (va_up (va_up (fun _ => none) 0 (some q2)) 1 (some q4)) 2 (some q6))))))), (q2, .inr (7, [])), (q4, .inr (0, [])), (q6, .inr (1, [])), (q8, .inl (g 0, 30, .inl (fun _ => 0))), (q9, .inl (g 0, 30, .inl (fun _ => 0))), (q10, .inl (g 0, 30, .inl (fun _ => 0)))] H := hP
  have hD : va_D (va_A [(h0, .inr (3, [.null, .null, .null, .null, .null, .null, .null, .null, .int 0, .int 0]))] sz) [(h0, .inr (3, [.ref q1, .ref q8, .ref q9, .null, .null, .null, .null, .null, .int 0, .int 0])), (q1, .inl (g 3, 3, .inr (.inr (.inr (.inr (va_up (va_up (va_up (fun _ => none) 0 (some q2)) 1 (some q4)) 2 (some q6))))))), (q2, .inr (7, [])), (q4, .inr (0, [])), (q6, .inr (1, [])), (q8, .inl (g 0, 30, .inl (fun _ => 0))), (q9, .inl (g 0, 30, .inl (fun _ => 0))), (q10, .inl (g 0, 30, .inl (fun _ => 0)))] := hD
  refine W.widen (k := 7) (n := 93) (Nat.le_of_ble_eq_true rfl) (Nat.le_of_ble_eq_true rfl) ?_
  refine va_putF (D := D) (ci := 3) (v := .ref q10) (ty := .array .int) (C := RX3) (T := TX3) (N := 10) hx hb ht giX3 tyX3 tyX3_ok nmX3 hown hK hP hD hS 0 rfl rfl 3 (by decide) (ht _ wd_68) (fun _ h => h) rfl hin rfl (by decide +kernel) rfl rfl (Nat.le_of_ble_eq_true rfl) dX3_init_63 (fun H locs hP hD hS => ?_)
  have hP : va_P D clL [(h0, .inr (3, [.ref q1, .ref q8, .ref q9, .ref q10, .null, .null, .null, .null, .int 0, .int 0])), (q1, .inl (g 3, 3, .inr (.inr (.inr (.inr (va_up (va_up (va_up (fun _ => none) 0 (some q2)) 1 (some q4)) 2 (some q6))))))), (q2, .inr (7, [])), (q4, .inr (0, [])), (q6, .inr (1, [])), (q8, .inl (g 0, 30, .inl (fun _ => 0))), (q9, .inl (g 0, 30, .inl (fun _ => 0))), (q10, .inl (g 0, 30, .inl (fun _ => 0)))] H := hP
  have hD : va_D (va_A [(h0, .inr (3, [.null, .null, .null, .null, .null, .null, .null, .null, .int 0, .int 0]))] sz) [(h0, .inr (3, [.ref q1, .ref q8, .ref q9, .ref q10, .null, .null, .null, .null, .int 0, .int 0])), (q1, .inl (g 3, 3, .inr (.inr (.inr (.inr (va_up (va_up (va_up (fun _ => none) 0 (some q2)) 1 (some q4)) 2 (some q6))))))), (q2, .inr (7, [])), (q4, .inr (0, [])), (q6, .inr (1, [])), (q8, .inl (g 0, 30, .inl (fun _ => 0))), (q9, .inl (g 0, 30, .inl (fun _ => 0))), (q10, .inl (g 0, 30, .inl (fun _ => 0)))] := hD
  refine lv_aload_n hx hb dX3_init_66 rfl (lv_at hl 0 rfl) ?_
  refine lv_bipush (v := 30) hx hb dX3_init_67 (by decide) ?_
  refine newI C hP hD hS hA 30 (by decide) (by decide) (by decide) (Nat.le_of_ble_eq_true rfl) (Nat.le_of_ble_eq_true rfl) dX3_init_69 (fun q11 H hP hD hS => ?_)
  have hP : va_P D clL [(h0, .inr (3, [.ref q1, .ref q8, .ref q9, .ref q10, .null, .null, .null, .null, .int 0, .int 0])), (q1, .inl (g 3, 3, .inr (.inr (.inr (.inr (va_up (va_up (va_up (fun _ => none) 0 (some q2)) 1 (some q4)) 2 (some q6))))))), (q2, .inr (7, [])), (q4, .inr (0, [])), (q6, .inr (1, [])), (q8, .inl (g 0, 30, .inl (fun _ => 0))), (q9, .inl (g 0, 30, .inl (fun _ => 0))), (q10, .inl (g 0, 30, .inl (fun _ => 0))), (q11, .inl (g 0, 30, .inl (fun _ => 0)))] H := hP
  have hD : va_D (va_A [(h0, .inr (3, [.null, .null, .null, .null, .null, .null, .null, .null, .int 0, .int 0]))] sz) [(h0, .inr (3, [.ref q1, .ref q8, .ref q9, .ref q10, .null, .null, .null, .null, .int 0, .int 0])), (q1, .inl (g 3, 3, .inr (.inr (.inr (.inr (va_up (va_up (va_up (fun _ => none) 0 (some q2)) 1 (some q4)) 2 (some q6))))))), (q2, .inr (7, [])), (q4, .inr (0, [])), (q6, .inr (1, [])), (q8, .inl (g 0, 30, .inl (fun _ => 0))), (q9, .inl (g 0, 30, .inl (fun _ => 0))), (q10, .inl (g 0, 30, .inl (fun _ => 0))), (q11, .inl (g 0, 30, .inl (fun _ => 0)))] := hD
  refine W.widen (k := 8) (n := 123) (Nat.le_of_ble_eq_true rfl) (Nat.le_of_ble_eq_true rfl) ?_
  refine va_putF (D := D) (ci := 3) (v := .ref q11) (ty := .array .int) (C := RX3) (T := TX3) (N := 10) hx hb ht giX3 tyX3 tyX3_ok nmX3 hown hK hP hD hS 0 rfl rfl 4 (by decide) (ht _ wd_70) (fun _ h => h) rfl hin rfl (by decide +kernel) rfl rfl (Nat.le_of_ble_eq_true rfl) dX3_init_71 (fun H locs hP hD hS => ?_)
  have hP : va_P D clL [(h0, .inr (3, [.ref q1, .ref q8, .ref q9, .ref q10, .ref q11, .null, .null, .null, .int 0, .int 0])), (q1, .inl (g 3, 3, .inr (.inr (.inr (.inr (va_up (va_up (va_up (fun _ => none) 0 (some q2)) 1 (some q4)) 2 (some q6))))))), (q2, .inr (7, [])), (q4, .inr (0, [])), (q6, .inr (1, [])), (q8, .inl (g 0, 30, .inl (fun _ => 0))), (q9, .inl (g 0, 30, .inl (fun _ => 0))), (q10, .inl (g 0, 30, .inl (fun _ => 0))), (q11, .inl (g 0, 30, .inl (fun _ => 0)))] H := hP
  have hD : va_D (va_A [(h0, .inr (3, [.null, .null, .null, .null, .null, .null, .null, .null, .int 0, .int 0]))] sz) [(h0, .inr (3, [.ref q1, .ref q8, .ref q9, .ref q10, .ref q11, .null, .null, .null, .int 0, .int 0])), (q1, .inl (g 3, 3, .inr (.inr (.inr (.inr (va_up (va_up (va_up (fun _ => none) 0 (some q2)) 1 (some q4)) 2 (some q6))))))), (q2, .inr (7, [])), (q4, .inr (0, [])), (q6, .inr (1, [])), (q8, .inl (g 0, 30, .inl (fun _ => 0))), (q9, .inl (g 0, 30, .inl (fun _ => 0))), (q10, .inl (g 0, 30, .inl (fun _ => 0))), (q11, .inl (g 0, 30, .inl (fun _ => 0)))] := hD
  refine lv_aload_n hx hb dX3_init_74 rfl (lv_at hl 0 rfl) ?_
  refine lv_bipush (v := 30) hx hb dX3_init_75 (by decide) ?_
  refine newI C hP hD hS hA 30 (by decide) (by decide) (by decide) (Nat.le_of_ble_eq_true rfl) (Nat.le_of_ble_eq_true rfl) dX3_init_77 (fun q12 H hP hD hS => ?_)
  have hP : va_P D clL [(h0, .inr (3, [.ref q1, .ref q8, .ref q9, .ref q10, .ref q11, .null, .null, .null, .int 0, .int 0])), (q1, .inl (g 3, 3, .inr (.inr (.inr (.inr (va_up (va_up (va_up (fun _ => none) 0 (some q2)) 1 (some q4)) 2 (some q6))))))), (q2, .inr (7, [])), (q4, .inr (0, [])), (q6, .inr (1, [])), (q8, .inl (g 0, 30, .inl (fun _ => 0))), (q9, .inl (g 0, 30, .inl (fun _ => 0))), (q10, .inl (g 0, 30, .inl (fun _ => 0))), (q11, .inl (g 0, 30, .inl (fun _ => 0))), (q12, .inl (g 0, 30, .inl (fun _ => 0)))] H := hP
  have hD : va_D (va_A [(h0, .inr (3, [.null, .null, .null, .null, .null, .null, .null, .null, .int 0, .int 0]))] sz) [(h0, .inr (3, [.ref q1, .ref q8, .ref q9, .ref q10, .ref q11, .null, .null, .null, .int 0, .int 0])), (q1, .inl (g 3, 3, .inr (.inr (.inr (.inr (va_up (va_up (va_up (fun _ => none) 0 (some q2)) 1 (some q4)) 2 (some q6))))))), (q2, .inr (7, [])), (q4, .inr (0, [])), (q6, .inr (1, [])), (q8, .inl (g 0, 30, .inl (fun _ => 0))), (q9, .inl (g 0, 30, .inl (fun _ => 0))), (q10, .inl (g 0, 30, .inl (fun _ => 0))), (q11, .inl (g 0, 30, .inl (fun _ => 0))), (q12, .inl (g 0, 30, .inl (fun _ => 0)))] := hD
  refine W.widen (k := 9) (n := 153) (Nat.le_of_ble_eq_true rfl) (Nat.le_of_ble_eq_true rfl) ?_
  refine va_putF (D := D) (ci := 3) (v := .ref q12) (ty := .array .int) (C := RX3) (T := TX3) (N := 10) hx hb ht giX3 tyX3 tyX3_ok nmX3 hown hK hP hD hS 0 rfl rfl 5 (by decide) (ht _ wd_72) (fun _ h => h) rfl hin rfl (by decide +kernel) rfl rfl (Nat.le_of_ble_eq_true rfl) dX3_init_79 (fun H locs hP hD hS => ?_)
  have hP : va_P D clL [(h0, .inr (3, [.ref q1, .ref q8, .ref q9, .ref q10, .ref q11, .ref q12, .null, .null, .int 0, .int 0])), (q1, .inl (g 3, 3, .inr (.inr (.inr (.inr (va_up (va_up (va_up (fun _ => none) 0 (some q2)) 1 (some q4)) 2 (some q6))))))), (q2, .inr (7, [])), (q4, .inr (0, [])), (q6, .inr (1, [])), (q8, .inl (g 0, 30, .inl (fun _ => 0))), (q9, .inl (g 0, 30, .inl (fun _ => 0))), (q10, .inl (g 0, 30, .inl (fun _ => 0))), (q11, .inl (g 0, 30, .inl (fun _ => 0))), (q12, .inl (g 0, 30, .inl (fun _ => 0)))] H := hP
  have hD : va_D (va_A [(h0, .inr (3, [.null, .null, .null, .null, .null, .null, .null, .null, .int 0, .int 0]))] sz) [(h0, .inr (3, [.ref q1, .ref q8, .ref q9, .ref q10, .ref q11, .ref q12, .null, .null, .int 0, .int 0])), (q1, .inl (g 3, 3, .inr (.inr (.inr (.inr (va_up (va_up (va_up (fun _ => none) 0 (some q2)) 1 (some q4)) 2 (some q6))))))), (q2, .inr (7, [])), (q4, .inr (0, [])), (q6, .inr (1, [])), (q8, .inl (g 0, 30, .inl (fun _ => 0))), (q9, .inl (g 0, 30, .inl (fun _ => 0))), (q10, .inl (g 0, 30, .inl (fun _ => 0))), (q11, .inl (g 0, 30, .inl (fun _ => 0))), (q12, .inl (g 0, 30, .inl (fun _ => 0)))] := hD
  refine lv_aload_n hx hb dX3_init_82 rfl (lv_at hl 0 rfl) ?_
  refine lv_bipush (v := 12) hx hb dX3_init_83 (by decide) ?_
  refine newI C hP hD hS hA 12 (by decide) (by decide) (by decide) (Nat.le_of_ble_eq_true rfl) (Nat.le_of_ble_eq_true rfl) dX3_init_85 (fun q13 H hP hD hS => ?_)
  have hP : va_P D clL [(h0, .inr (3, [.ref q1, .ref q8, .ref q9, .ref q10, .ref q11, .ref q12, .null, .null, .int 0, .int 0])), (q1, .inl (g 3, 3, .inr (.inr (.inr (.inr (va_up (va_up (va_up (fun _ => none) 0 (some q2)) 1 (some q4)) 2 (some q6))))))), (q2, .inr (7, [])), (q4, .inr (0, [])), (q6, .inr (1, [])), (q8, .inl (g 0, 30, .inl (fun _ => 0))), (q9, .inl (g 0, 30, .inl (fun _ => 0))), (q10, .inl (g 0, 30, .inl (fun _ => 0))), (q11, .inl (g 0, 30, .inl (fun _ => 0))), (q12, .inl (g 0, 30, .inl (fun _ => 0))), (q13, .inl (g 0, 12, .inl (fun _ => 0)))] H := hP
  have hD : va_D (va_A [(h0, .inr (3, [.null, .null, .null, .null, .null, .null, .null, .null, .int 0, .int 0]))] sz) [(h0, .inr (3, [.ref q1, .ref q8, .ref q9, .ref q10, .ref q11, .ref q12, .null, .null, .int 0, .int 0])), (q1, .inl (g 3, 3, .inr (.inr (.inr (.inr (va_up (va_up (va_up (fun _ => none) 0 (some q2)) 1 (some q4)) 2 (some q6))))))), (q2, .inr (7, [])), (q4, .inr (0, [])), (q6, .inr (1, [])), (q8, .inl (g 0, 30, .inl (fun _ => 0))), (q9, .inl (g 0, 30, .inl (fun _ => 0))), (q10, .inl (g 0, 30, .inl (fun _ => 0))), (q11, .inl (g 0, 30, .inl (fun _ => 0))), (q12, .inl (g 0, 30, .inl (fun _ => 0))), (q13, .inl (g 0, 12, .inl (fun _ => 0)))] := hD
  refine W.widen (k := 10) (n := 165) (Nat.le_of_ble_eq_true rfl) (Nat.le_of_ble_eq_true rfl) ?_
  refine va_putF (D := D) (ci := 3) (v := .ref q13) (ty := .array .int) (C := RX3) (T := TX3) (N := 10) hx hb ht giX3 tyX3 tyX3_ok nmX3 hown hK hP hD hS 0 rfl rfl 6 (by decide) (ht _ wd_74) (fun _ h => h) rfl hin rfl (by decide +kernel) rfl rfl (Nat.le_of_ble_eq_true rfl) dX3_init_87 (fun H locs hP hD hS => ?_)
  have hP : va_P D clL [(h0, .inr (3, [.ref q1, .ref q8, .ref q9, .ref q10, .ref q11, .ref q12, .ref q13, .null, .int 0, .int 0])), (q1, .inl (g 3, 3, .inr (.inr (.inr (.inr (va_up (va_up (va_up (fun _ => none) 0 (some q2)) 1 (some q4)) 2 (some q6))))))), (q2, .inr (7, [])), (q4, .inr (0, [])), (q6, .inr (1, [])), (q8, .inl (g 0, 30, .inl (fun _ => 0))), (q9, .inl (g 0, 30, .inl (fun _ => 0))), (q10, .inl (g 0, 30, .inl (fun _ => 0))), (q11, .inl (g 0, 30, .inl (fun _ => 0))), (q12, .inl (g 0, 30, .inl (fun _ => 0))), (q13, .inl (g 0, 12, .inl (fun _ => 0)))] H := hP
  have hD : va_D (va_A [(h0, .inr (3, [.null, .null, .null, .null, .null, .null, .null, .null, .int 0, .int 0]))] sz) [(h0, .inr (3, [.ref q1, .ref q8, .ref q9, .ref q10, .ref q11, .ref q12, .ref q13, .null, .int 0, .int 0])), (q1, .inl (g 3, 3, .inr (.inr (.inr (.inr (va_up (va_up (va_up (fun _ => none) 0 (some q2)) 1 (some q4)) 2 (some q6))))))), (q2, .inr (7, [])), (q4, .inr (0, [])), (q6, .inr (1, [])), (q8, .inl (g 0, 30, .inl (fun _ => 0))), (q9, .inl (g 0, 30, .inl (fun _ => 0))), (q10, .inl (g 0, 30, .inl (fun _ => 0))), (q11, .inl (g 0, 30, .inl (fun _ => 0))), (q12, .inl (g 0, 30, .inl (fun _ => 0))), (q13, .inl (g 0, 12, .inl (fun _ => 0)))] := hD
  refine lv_aload_n hx hb dX3_init_90 rfl (lv_at hl 0 rfl) ?_
  refine lv_bipush (v := 12) hx hb dX3_init_91 (by decide) ?_
  refine newI C hP hD hS hA 12 (by decide) (by decide) (by decide) (Nat.le_of_ble_eq_true rfl) (Nat.le_of_ble_eq_true rfl) dX3_init_93 (fun q14 H hP hD hS => ?_)
  have hP : va_P D clL [(h0, .inr (3, [.ref q1, .ref q8, .ref q9, .ref q10, .ref q11, .ref q12, .ref q13, .null, .int 0, .int 0])), (q1, .inl (g 3, 3, .inr (.inr (.inr (.inr (va_up (va_up (va_up (fun _ => none) 0 (some q2)) 1 (some q4)) 2 (some q6))))))), (q2, .inr (7, [])), (q4, .inr (0, [])), (q6, .inr (1, [])), (q8, .inl (g 0, 30, .inl (fun _ => 0))), (q9, .inl (g 0, 30, .inl (fun _ => 0))), (q10, .inl (g 0, 30, .inl (fun _ => 0))), (q11, .inl (g 0, 30, .inl (fun _ => 0))), (q12, .inl (g 0, 30, .inl (fun _ => 0))), (q13, .inl (g 0, 12, .inl (fun _ => 0))), (q14, .inl (g 0, 12, .inl (fun _ => 0)))] H := hP
  have hD : va_D (va_A [(h0, .inr (3, [.null, .null, .null, .null, .null, .null, .null, .null, .int 0, .int 0]))] sz) [(h0, .inr (3, [.ref q1, .ref q8, .ref q9, .ref q10, .ref q11, .ref q12, .ref q13, .null, .int 0, .int 0])), (q1, .inl (g 3, 3, .inr (.inr (.inr (.inr (va_up (va_up (va_up (fun _ => none) 0 (some q2)) 1 (some q4)) 2 (some q6))))))), (q2, .inr (7, [])), (q4, .inr (0, [])), (q6, .inr (1, [])), (q8, .inl (g 0, 30, .inl (fun _ => 0))), (q9, .inl (g 0, 30, .inl (fun _ => 0))), (q10, .inl (g 0, 30, .inl (fun _ => 0))), (q11, .inl (g 0, 30, .inl (fun _ => 0))), (q12, .inl (g 0, 30, .inl (fun _ => 0))), (q13, .inl (g 0, 12, .inl (fun _ => 0))), (q14, .inl (g 0, 12, .inl (fun _ => 0)))] := hD
  refine W.widen (k := 11) (n := 177) (Nat.le_of_ble_eq_true rfl) (Nat.le_of_ble_eq_true rfl) ?_
  refine va_putF (D := D) (ci := 3) (v := .ref q14) (ty := .array .int) (C := RX3) (T := TX3) (N := 10) hx hb ht giX3 tyX3 tyX3_ok nmX3 hown hK hP hD hS 0 rfl rfl 7 (by decide) (ht _ wd_76) (fun _ h => h) rfl hin rfl (by decide +kernel) rfl rfl (Nat.le_of_ble_eq_true rfl) dX3_init_95 (fun H locs hP hD hS => ?_)
  have hP : va_P D clL [(h0, .inr (3, [.ref q1, .ref q8, .ref q9, .ref q10, .ref q11, .ref q12, .ref q13, .ref q14, .int 0, .int 0])), (q1, .inl (g 3, 3, .inr (.inr (.inr (.inr (va_up (va_up (va_up (fun _ => none) 0 (some q2)) 1 (some q4)) 2 (some q6))))))), (q2, .inr (7, [])), (q4, .inr (0, [])), (q6, .inr (1, [])), (q8, .inl (g 0, 30, .inl (fun _ => 0))), (q9, .inl (g 0, 30, .inl (fun _ => 0))), (q10, .inl (g 0, 30, .inl (fun _ => 0))), (q11, .inl (g 0, 30, .inl (fun _ => 0))), (q12, .inl (g 0, 30, .inl (fun _ => 0))), (q13, .inl (g 0, 12, .inl (fun _ => 0))), (q14, .inl (g 0, 12, .inl (fun _ => 0)))] H := hP
  have hD : va_D (va_A [(h0, .inr (3, [.null, .null, .null, .null, .null, .null, .null, .null, .int 0, .int 0]))] sz) [(h0, .inr (3, [.ref q1, .ref q8, .ref q9, .ref q10, .ref q11, .ref q12, .ref q13, .ref q14, .int 0, .int 0])), (q1, .inl (g 3, 3, .inr (.inr (.inr (.inr (va_up (va_up (va_up (fun _ => none) 0 (some q2)) 1 (some q4)) 2 (some q6))))))), (q2, .inr (7, [])), (q4, .inr (0, [])), (q6, .inr (1, [])), (q8, .inl (g 0, 30, .inl (fun _ => 0))), (q9, .inl (g 0, 30, .inl (fun _ => 0))), (q10, .inl (g 0, 30, .inl (fun _ => 0))), (q11, .inl (g 0, 30, .inl (fun _ => 0))), (q12, .inl (g 0, 30, .inl (fun _ => 0))), (q13, .inl (g 0, 12, .inl (fun _ => 0))), (q14, .inl (g 0, 12, .inl (fun _ => 0)))] := hD
  exact retC C (fun k => [h0, q1, q2, q4, q6, q8, q9, q10, q11, q12, q13, q14].getD k 0) trivial hP hD hS dX3_init_98
theorem ok_X10_init : okI yX10_init cX10_init 2 1 := ⟨wd_108, wd_107, wd_7, ⟨by decide, by decide, by decide⟩, rfl⟩
def nX10_init (g : Nat → ClassId) (h0 : Nat) (hp : Nat) (q : Nat → Nat) : va_W := [(h0, .inr (10, [.ref hp, .ref (q 1), .ref (q 2), .ref (q 3), .ref (q 4), .ref (q 5)])), ((q 1), .inl (g 0, 30, .inl (fun _ => 0))), ((q 2), .inl (g 0, 30, .inl (fun _ => 0))), ((q 3), .inl (g 0, 30, .inl (fun _ => 0))), ((q 4), .inl (g 0, 30, .inl (fun _ => 0))), ((q 5), .inl (g 0, 30, .inl (fun _ => 0)))]
set_option maxHeartbeats 4000000 in
set_option maxRecDepth 100000 in
theorem c_X10_init (l : Launch) (D : va_G) (g : Nat → ClassId) (h0 sz : Nat) (hp : Nat) : Met l yX10_init (cW yX10_init cX10_init 2 none) ({ frames := 1, cells := 5, slots := 150, locals := 20 } : Room) (PwZ sz D (tyL g) [(h0, .inr (10, [.null, .null, .null, .null, .null, .null]))] [.ref h0, .ref hp]) (CtQ D (nX10_init g h0 hp) (fun _ => True) (va_A [(h0, .inr (10, [.null, .null, .null, .null, .null, .null]))] sz)) 5 150 (va_A [(h0, .inr (10, [.null, .null, .null, .null, .null, .null]))] sz) := by
  refine met_inC (by decide) rfl (Nat.le_of_ble_eq_true rfl) ?_
  intro p e s m args below meth c ls C hin hsz hP hD hS hA hl
  have C : Cx p s m args meth c cX10_init 2 none RX10 D (tyL g) := C
  obtain ⟨hx, hb, hr, hml, hown, ht, hlocks, hK, hN⟩ := id C
  have hl : lv_has ls 2 [(0, .ref h0), (1, .ref hp)] := hl
  refine lv_aload_n hx hb dX10_init_0 rfl (lv_at hl 0 rfl) ?_
  refine W.objInit hx hb hown (ht _ wd_109) (ht _ wd_22) (ht _ wd_23) rfl (by rw [hml]; exact hl.1) rfl dX10_init_1 (Nat.le_of_ble_eq_true rfl) (Nat.le_of_ble_eq_true rfl) ?_
  refine W.eq (g2 := F0 m 4 ls []) rfl ?_
  refine lv_aload_n hx hb dX10_init_4 rfl (lv_at hl 0 rfl) ?_
  refine lv_bipush (v := 30) hx hb dX10_init_5 (by decide) ?_
  refine newI C hP hD hS hA 30 (by decide) (by decide) (by decide) (Nat.le_of_ble_eq_true rfl) (Nat.le_of_ble_eq_true rfl) dX10_init_7 (fun q1 H hP hD hS => ?_)
  have hP : va_P D clL [(h0, .inr (10, [.null, .null, .null, .null, .null, .null])), (q1, .inl (g 0, 30, .inl (fun _ => 0)))] H := hP
  have hD : va_D (va_A [(h0, .inr (10, [.null, .null, .null, .null, .null, .null]))] sz) [(h0, .inr (10, [.null, .null, .null, .null, .null, .null])), (q1, .inl (g 0, 30, .inl (fun _ => 0)))] := hD
  refine W.widen (k := 1) (n := 30) (Nat.le_of_ble_eq_true rfl) (Nat.le_of_ble_eq_true rfl) ?_
  refine va_putF (D := D) (ci := 10) (v := .ref q1) (ty := .array .int) (C := RX10) (T := TX10) (N := 6) hx hb ht giX10 tyX10 tyX10_ok nmX10 hown hK hP hD hS 0 rfl rfl 1 (by decide) (ht _ wd_111) (fun _ h => h) rfl hin rfl (by decide +kernel) rfl rfl (Nat.le_of_ble_eq_true rfl) dX10_init_9 (fun H locs hP hD hS => ?_)
  have hP : va_P D clL [(h0, .inr (10, [.null, .ref q1, .null, .null, .null, .null])), (q1, .inl (g 0, 30, .inl (fun _ => 0)))] H := hP
  have hD : va_D (va_A [(h0, .inr (10, [.null, .null, .null, .null, .null, .null]))] sz) [(h0, .inr (10, [.null, .ref q1, .null, .null, .null, .null])), (q1, .inl (g 0, 30, .inl (fun _ => 0)))] := hD
  refine lv_aload_n hx hb dX10_init_12 rfl (lv_at hl 0 rfl) ?_
  refine lv_bipush (v := 30) hx hb dX10_init_13 (by decide) ?_
  refine newI C hP hD hS hA 30 (by decide) (by decide) (by decide) (Nat.le_of_ble_eq_true rfl) (Nat.le_of_ble_eq_true rfl) dX10_init_15 (fun q2 H hP hD hS => ?_)
  have hP : va_P D clL [(h0, .inr (10, [.null, .ref q1, .null, .null, .null, .null])), (q1, .inl (g 0, 30, .inl (fun _ => 0))), (q2, .inl (g 0, 30, .inl (fun _ => 0)))] H := hP
  have hD : va_D (va_A [(h0, .inr (10, [.null, .null, .null, .null, .null, .null]))] sz) [(h0, .inr (10, [.null, .ref q1, .null, .null, .null, .null])), (q1, .inl (g 0, 30, .inl (fun _ => 0))), (q2, .inl (g 0, 30, .inl (fun _ => 0)))] := hD
  refine W.widen (k := 2) (n := 60) (Nat.le_of_ble_eq_true rfl) (Nat.le_of_ble_eq_true rfl) ?_
  refine va_putF (D := D) (ci := 10) (v := .ref q2) (ty := .array .int) (C := RX10) (T := TX10) (N := 6) hx hb ht giX10 tyX10 tyX10_ok nmX10 hown hK hP hD hS 0 rfl rfl 2 (by decide) (ht _ wd_112) (fun _ h => h) rfl hin rfl (by decide +kernel) rfl rfl (Nat.le_of_ble_eq_true rfl) dX10_init_17 (fun H locs hP hD hS => ?_)
  have hP : va_P D clL [(h0, .inr (10, [.null, .ref q1, .ref q2, .null, .null, .null])), (q1, .inl (g 0, 30, .inl (fun _ => 0))), (q2, .inl (g 0, 30, .inl (fun _ => 0)))] H := hP
  have hD : va_D (va_A [(h0, .inr (10, [.null, .null, .null, .null, .null, .null]))] sz) [(h0, .inr (10, [.null, .ref q1, .ref q2, .null, .null, .null])), (q1, .inl (g 0, 30, .inl (fun _ => 0))), (q2, .inl (g 0, 30, .inl (fun _ => 0)))] := hD
  refine lv_aload_n hx hb dX10_init_20 rfl (lv_at hl 0 rfl) ?_
  refine lv_bipush (v := 30) hx hb dX10_init_21 (by decide) ?_
  refine newI C hP hD hS hA 30 (by decide) (by decide) (by decide) (Nat.le_of_ble_eq_true rfl) (Nat.le_of_ble_eq_true rfl) dX10_init_23 (fun q3 H hP hD hS => ?_)
  have hP : va_P D clL [(h0, .inr (10, [.null, .ref q1, .ref q2, .null, .null, .null])), (q1, .inl (g 0, 30, .inl (fun _ => 0))), (q2, .inl (g 0, 30, .inl (fun _ => 0))), (q3, .inl (g 0, 30, .inl (fun _ => 0)))] H := hP
  have hD : va_D (va_A [(h0, .inr (10, [.null, .null, .null, .null, .null, .null]))] sz) [(h0, .inr (10, [.null, .ref q1, .ref q2, .null, .null, .null])), (q1, .inl (g 0, 30, .inl (fun _ => 0))), (q2, .inl (g 0, 30, .inl (fun _ => 0))), (q3, .inl (g 0, 30, .inl (fun _ => 0)))] := hD
  refine W.widen (k := 3) (n := 90) (Nat.le_of_ble_eq_true rfl) (Nat.le_of_ble_eq_true rfl) ?_
  refine va_putF (D := D) (ci := 10) (v := .ref q3) (ty := .array .int) (C := RX10) (T := TX10) (N := 6) hx hb ht giX10 tyX10 tyX10_ok nmX10 hown hK hP hD hS 0 rfl rfl 3 (by decide) (ht _ wd_113) (fun _ h => h) rfl hin rfl (by decide +kernel) rfl rfl (Nat.le_of_ble_eq_true rfl) dX10_init_25 (fun H locs hP hD hS => ?_)
  have hP : va_P D clL [(h0, .inr (10, [.null, .ref q1, .ref q2, .ref q3, .null, .null])), (q1, .inl (g 0, 30, .inl (fun _ => 0))), (q2, .inl (g 0, 30, .inl (fun _ => 0))), (q3, .inl (g 0, 30, .inl (fun _ => 0)))] H := hP
  have hD : va_D (va_A [(h0, .inr (10, [.null, .null, .null, .null, .null, .null]))] sz) [(h0, .inr (10, [.null, .ref q1, .ref q2, .ref q3, .null, .null])), (q1, .inl (g 0, 30, .inl (fun _ => 0))), (q2, .inl (g 0, 30, .inl (fun _ => 0))), (q3, .inl (g 0, 30, .inl (fun _ => 0)))] := hD
  refine lv_aload_n hx hb dX10_init_28 rfl (lv_at hl 0 rfl) ?_
  refine lv_bipush (v := 30) hx hb dX10_init_29 (by decide) ?_
  refine newI C hP hD hS hA 30 (by decide) (by decide) (by decide) (Nat.le_of_ble_eq_true rfl) (Nat.le_of_ble_eq_true rfl) dX10_init_31 (fun q4 H hP hD hS => ?_)
  have hP : va_P D clL [(h0, .inr (10, [.null, .ref q1, .ref q2, .ref q3, .null, .null])), (q1, .inl (g 0, 30, .inl (fun _ => 0))), (q2, .inl (g 0, 30, .inl (fun _ => 0))), (q3, .inl (g 0, 30, .inl (fun _ => 0))), (q4, .inl (g 0, 30, .inl (fun _ => 0)))] H := hP
  have hD : va_D (va_A [(h0, .inr (10, [.null, .null, .null, .null, .null, .null]))] sz) [(h0, .inr (10, [.null, .ref q1, .ref q2, .ref q3, .null, .null])), (q1, .inl (g 0, 30, .inl (fun _ => 0))), (q2, .inl (g 0, 30, .inl (fun _ => 0))), (q3, .inl (g 0, 30, .inl (fun _ => 0))), (q4, .inl (g 0, 30, .inl (fun _ => 0)))] := hD
  refine W.widen (k := 4) (n := 120) (Nat.le_of_ble_eq_true rfl) (Nat.le_of_ble_eq_true rfl) ?_
  refine va_putF (D := D) (ci := 10) (v := .ref q4) (ty := .array .int) (C := RX10) (T := TX10) (N := 6) hx hb ht giX10 tyX10 tyX10_ok nmX10 hown hK hP hD hS 0 rfl rfl 4 (by decide) (ht _ wd_114) (fun _ h => h) rfl hin rfl (by decide +kernel) rfl rfl (Nat.le_of_ble_eq_true rfl) dX10_init_33 (fun H locs hP hD hS => ?_)
  have hP : va_P D clL [(h0, .inr (10, [.null, .ref q1, .ref q2, .ref q3, .ref q4, .null])), (q1, .inl (g 0, 30, .inl (fun _ => 0))), (q2, .inl (g 0, 30, .inl (fun _ => 0))), (q3, .inl (g 0, 30, .inl (fun _ => 0))), (q4, .inl (g 0, 30, .inl (fun _ => 0)))] H := hP
  have hD : va_D (va_A [(h0, .inr (10, [.null, .null, .null, .null, .null, .null]))] sz) [(h0, .inr (10, [.null, .ref q1, .ref q2, .ref q3, .ref q4, .null])), (q1, .inl (g 0, 30, .inl (fun _ => 0))), (q2, .inl (g 0, 30, .inl (fun _ => 0))), (q3, .inl (g 0, 30, .inl (fun _ => 0))), (q4, .inl (g 0, 30, .inl (fun _ => 0)))] := hD
  refine lv_aload_n hx hb dX10_init_36 rfl (lv_at hl 0 rfl) ?_
  refine lv_bipush (v := 30) hx hb dX10_init_37 (by decide) ?_
  refine newI C hP hD hS hA 30 (by decide) (by decide) (by decide) (Nat.le_of_ble_eq_true rfl) (Nat.le_of_ble_eq_true rfl) dX10_init_39 (fun q5 H hP hD hS => ?_)
  have hP : va_P D clL [(h0, .inr (10, [.null, .ref q1, .ref q2, .ref q3, .ref q4, .null])), (q1, .inl (g 0, 30, .inl (fun _ => 0))), (q2, .inl (g 0, 30, .inl (fun _ => 0))), (q3, .inl (g 0, 30, .inl (fun _ => 0))), (q4, .inl (g 0, 30, .inl (fun _ => 0))), (q5, .inl (g 0, 30, .inl (fun _ => 0)))] H := hP
  have hD : va_D (va_A [(h0, .inr (10, [.null, .null, .null, .null, .null, .null]))] sz) [(h0, .inr (10, [.null, .ref q1, .ref q2, .ref q3, .ref q4, .null])), (q1, .inl (g 0, 30, .inl (fun _ => 0))), (q2, .inl (g 0, 30, .inl (fun _ => 0))), (q3, .inl (g 0, 30, .inl (fun _ => 0))), (q4, .inl (g 0, 30, .inl (fun _ => 0))), (q5, .inl (g 0, 30, .inl (fun _ => 0)))] := hD
  refine W.widen (k := 5) (n := 150) (Nat.le_of_ble_eq_true rfl) (Nat.le_of_ble_eq_true rfl) ?_
  refine va_putF (D := D) (ci := 10) (v := .ref q5) (ty := .array .int) (C := RX10) (T := TX10) (N := 6) hx hb ht giX10 tyX10 tyX10_ok nmX10 hown hK hP hD hS 0 rfl rfl 5 (by decide) (ht _ wd_116) (fun _ h => h) rfl hin rfl (by decide +kernel) rfl rfl (Nat.le_of_ble_eq_true rfl) dX10_init_41 (fun H locs hP hD hS => ?_)
  have hP : va_P D clL [(h0, .inr (10, [.null, .ref q1, .ref q2, .ref q3, .ref q4, .ref q5])), (q1, .inl (g 0, 30, .inl (fun _ => 0))), (q2, .inl (g 0, 30, .inl (fun _ => 0))), (q3, .inl (g 0, 30, .inl (fun _ => 0))), (q4, .inl (g 0, 30, .inl (fun _ => 0))), (q5, .inl (g 0, 30, .inl (fun _ => 0)))] H := hP
  have hD : va_D (va_A [(h0, .inr (10, [.null, .null, .null, .null, .null, .null]))] sz) [(h0, .inr (10, [.null, .ref q1, .ref q2, .ref q3, .ref q4, .ref q5])), (q1, .inl (g 0, 30, .inl (fun _ => 0))), (q2, .inl (g 0, 30, .inl (fun _ => 0))), (q3, .inl (g 0, 30, .inl (fun _ => 0))), (q4, .inl (g 0, 30, .inl (fun _ => 0))), (q5, .inl (g 0, 30, .inl (fun _ => 0)))] := hD
  refine lv_aload_n hx hb dX10_init_44 rfl (lv_at hl 0 rfl) ?_
  refine lv_aload_n hx hb dX10_init_45 rfl (lv_at hl 1 rfl) ?_
  refine va_putF (D := D) (ci := 10) (v := .ref hp) (ty := .object "BreathSquare$Paving") (C := RX10) (T := TX10) (N := 6) hx hb ht giX10 tyX10 tyX10_ok nmX10 hown hK hP hD hS 0 rfl rfl 0 (by decide) (ht _ wd_110) (fun _ h => h) rfl hin rfl (by decide +kernel) rfl rfl (Nat.le_of_ble_eq_true rfl) dX10_init_46 (fun H locs hP hD hS => ?_)
  have hP : va_P D clL [(h0, .inr (10, [.ref hp, .ref q1, .ref q2, .ref q3, .ref q4, .ref q5])), (q1, .inl (g 0, 30, .inl (fun _ => 0))), (q2, .inl (g 0, 30, .inl (fun _ => 0))), (q3, .inl (g 0, 30, .inl (fun _ => 0))), (q4, .inl (g 0, 30, .inl (fun _ => 0))), (q5, .inl (g 0, 30, .inl (fun _ => 0)))] H := hP
  have hD : va_D (va_A [(h0, .inr (10, [.null, .null, .null, .null, .null, .null]))] sz) [(h0, .inr (10, [.ref hp, .ref q1, .ref q2, .ref q3, .ref q4, .ref q5])), (q1, .inl (g 0, 30, .inl (fun _ => 0))), (q2, .inl (g 0, 30, .inl (fun _ => 0))), (q3, .inl (g 0, 30, .inl (fun _ => 0))), (q4, .inl (g 0, 30, .inl (fun _ => 0))), (q5, .inl (g 0, 30, .inl (fun _ => 0)))] := hD
  exact retC C (fun k => [h0, q1, q2, q3, q4, q5].getD k 0) trivial hP hD hS dX10_init_49
theorem ok_X4_init : okI yX4_init cX4_init 2 1 := ⟨wd_134, wd_133, wd_8, ⟨by decide, by decide, by decide⟩, rfl⟩
def nX4_init (g : Nat → ClassId) (h0 : Nat) (hp : Nat) (q : Nat → Nat) : va_W := [(h0, .inr (4, [.ref hp, .ref (q 1), .ref (q 2), .int 0, .int 0, .int 0])), ((q 1), .inl (g 0, 30, .inl (fun _ => 0))), ((q 2), .inl (g 0, 30, .inl (fun _ => 0)))]
set_option maxHeartbeats 4000000 in
set_option maxRecDepth 100000 in
theorem c_X4_init (l : Launch) (D : va_G) (g : Nat → ClassId) (h0 sz : Nat) (hp : Nat) : Met l yX4_init (cW yX4_init cX4_init 2 none) ({ frames := 1, cells := 2, slots := 60, locals := 20 } : Room) (PwZ sz D (tyL g) [(h0, .inr (4, [.null, .null, .null, .int 0, .int 0, .int 0]))] [.ref h0, .ref hp]) (CtQ D (nX4_init g h0 hp) (fun _ => True) (va_A [(h0, .inr (4, [.null, .null, .null, .int 0, .int 0, .int 0]))] sz)) 2 60 (va_A [(h0, .inr (4, [.null, .null, .null, .int 0, .int 0, .int 0]))] sz) := by
  refine met_inC (by decide) rfl (Nat.le_of_ble_eq_true rfl) ?_
  intro p e s m args below meth c ls C hin hsz hP hD hS hA hl
  have C : Cx p s m args meth c cX4_init 2 none RX4 D (tyL g) := C
  obtain ⟨hx, hb, hr, hml, hown, ht, hlocks, hK, hN⟩ := id C
  have hl : lv_has ls 2 [(0, .ref h0), (1, .ref hp)] := hl
  refine lv_aload_n hx hb dX4_init_0 rfl (lv_at hl 0 rfl) ?_
  refine W.objInit hx hb hown (ht _ wd_135) (ht _ wd_22) (ht _ wd_23) rfl (by rw [hml]; exact hl.1) rfl dX4_init_1 (Nat.le_of_ble_eq_true rfl) (Nat.le_of_ble_eq_true rfl) ?_
  refine W.eq (g2 := F0 m 4 ls []) rfl ?_
  refine lv_aload_n hx hb dX4_init_4 rfl (lv_at hl 0 rfl) ?_
  refine lv_bipush (v := 30) hx hb dX4_init_5 (by decide) ?_
  refine newI C hP hD hS hA 30 (by decide) (by decide) (by decide) (Nat.le_of_ble_eq_true rfl) (Nat.le_of_ble_eq_true rfl) dX4_init_7 (fun q1 H hP hD hS => ?_)
  have hP : va_P D clL [(h0, .inr (4, [.null, .null, .null, .int 0, .int 0, .int 0])), (q1, .inl (g 0, 30, .inl (fun _ => 0)))] H := hP
  have hD : va_D (va_A [(h0, .inr (4, [.null, .null, .null, .int 0, .int 0, .int 0]))] sz) [(h0, .inr (4, [.null, .null, .null, .int 0, .int 0, .int 0])), (q1, .inl (g 0, 30, .inl (fun _ => 0)))] := hD
  refine W.widen (k := 1) (n := 30) (Nat.le_of_ble_eq_true rfl) (Nat.le_of_ble_eq_true rfl) ?_
  refine va_putF (D := D) (ci := 4) (v := .ref q1) (ty := .array .int) (C := RX4) (T := TX4) (N := 6) hx hb ht giX4 tyX4 tyX4_ok nmX4 hown hK hP hD hS 0 rfl rfl 1 (by decide) (ht _ wd_137) (fun _ h => h) rfl hin rfl (by decide +kernel) rfl rfl (Nat.le_of_ble_eq_true rfl) dX4_init_9 (fun H locs hP hD hS => ?_)
  have hP : va_P D clL [(h0, .inr (4, [.null, .ref q1, .null, .int 0, .int 0, .int 0])), (q1, .inl (g 0, 30, .inl (fun _ => 0)))] H := hP
  have hD : va_D (va_A [(h0, .inr (4, [.null, .null, .null, .int 0, .int 0, .int 0]))] sz) [(h0, .inr (4, [.null, .ref q1, .null, .int 0, .int 0, .int 0])), (q1, .inl (g 0, 30, .inl (fun _ => 0)))] := hD
  refine lv_aload_n hx hb dX4_init_12 rfl (lv_at hl 0 rfl) ?_
  refine lv_bipush (v := 30) hx hb dX4_init_13 (by decide) ?_
  refine newI C hP hD hS hA 30 (by decide) (by decide) (by decide) (Nat.le_of_ble_eq_true rfl) (Nat.le_of_ble_eq_true rfl) dX4_init_15 (fun q2 H hP hD hS => ?_)
  have hP : va_P D clL [(h0, .inr (4, [.null, .ref q1, .null, .int 0, .int 0, .int 0])), (q1, .inl (g 0, 30, .inl (fun _ => 0))), (q2, .inl (g 0, 30, .inl (fun _ => 0)))] H := hP
  have hD : va_D (va_A [(h0, .inr (4, [.null, .null, .null, .int 0, .int 0, .int 0]))] sz) [(h0, .inr (4, [.null, .ref q1, .null, .int 0, .int 0, .int 0])), (q1, .inl (g 0, 30, .inl (fun _ => 0))), (q2, .inl (g 0, 30, .inl (fun _ => 0)))] := hD
  refine W.widen (k := 2) (n := 60) (Nat.le_of_ble_eq_true rfl) (Nat.le_of_ble_eq_true rfl) ?_
  refine va_putF (D := D) (ci := 4) (v := .ref q2) (ty := .array .int) (C := RX4) (T := TX4) (N := 6) hx hb ht giX4 tyX4 tyX4_ok nmX4 hown hK hP hD hS 0 rfl rfl 2 (by decide) (ht _ wd_138) (fun _ h => h) rfl hin rfl (by decide +kernel) rfl rfl (Nat.le_of_ble_eq_true rfl) dX4_init_17 (fun H locs hP hD hS => ?_)
  have hP : va_P D clL [(h0, .inr (4, [.null, .ref q1, .ref q2, .int 0, .int 0, .int 0])), (q1, .inl (g 0, 30, .inl (fun _ => 0))), (q2, .inl (g 0, 30, .inl (fun _ => 0)))] H := hP
  have hD : va_D (va_A [(h0, .inr (4, [.null, .null, .null, .int 0, .int 0, .int 0]))] sz) [(h0, .inr (4, [.null, .ref q1, .ref q2, .int 0, .int 0, .int 0])), (q1, .inl (g 0, 30, .inl (fun _ => 0))), (q2, .inl (g 0, 30, .inl (fun _ => 0)))] := hD
  refine lv_aload_n hx hb dX4_init_20 rfl (lv_at hl 0 rfl) ?_
  refine lv_aload_n hx hb dX4_init_21 rfl (lv_at hl 1 rfl) ?_
  refine va_putF (D := D) (ci := 4) (v := .ref hp) (ty := .object "BreathSquare$Paving") (C := RX4) (T := TX4) (N := 6) hx hb ht giX4 tyX4 tyX4_ok nmX4 hown hK hP hD hS 0 rfl rfl 0 (by decide) (ht _ wd_136) (fun _ h => h) rfl hin rfl (by decide +kernel) rfl rfl (Nat.le_of_ble_eq_true rfl) dX4_init_22 (fun H locs hP hD hS => ?_)
  have hP : va_P D clL [(h0, .inr (4, [.ref hp, .ref q1, .ref q2, .int 0, .int 0, .int 0])), (q1, .inl (g 0, 30, .inl (fun _ => 0))), (q2, .inl (g 0, 30, .inl (fun _ => 0)))] H := hP
  have hD : va_D (va_A [(h0, .inr (4, [.null, .null, .null, .int 0, .int 0, .int 0]))] sz) [(h0, .inr (4, [.ref hp, .ref q1, .ref q2, .int 0, .int 0, .int 0])), (q1, .inl (g 0, 30, .inl (fun _ => 0))), (q2, .inl (g 0, 30, .inl (fun _ => 0)))] := hD
  exact retC C (fun k => [h0, q1, q2].getD k 0) trivial hP hD hS dX4_init_25
theorem ok_X9_init : okI yX9_init cX9_init 2 1 := ⟨wd_162, wd_161, wd_9, ⟨by decide, by decide, by decide⟩, rfl⟩
def nX9_init (g : Nat → ClassId) (h0 : Nat) (hp : Nat) (q : Nat → Nat) : va_W := [(h0, .inr (9, [.ref hp, .ref (q 1), .ref (q 2)])), ((q 1), .inl (g 0, 30, .inl (fun _ => 0))), ((q 2), .inl (g 0, 30, .inl (fun _ => 0)))]
set_option maxHeartbeats 4000000 in
set_option maxRecDepth 100000 in
theorem c_X9_init (l : Launch) (D : va_G) (g : Nat → ClassId) (h0 sz : Nat) (hp : Nat) : Met l yX9_init (cW yX9_init cX9_init 2 none) ({ frames := 1, cells := 2, slots := 60, locals := 20 } : Room) (PwZ sz D (tyL g) [(h0, .inr (9, [.null, .null, .null]))] [.ref h0, .ref hp]) (CtQ D (nX9_init g h0 hp) (fun _ => True) (va_A [(h0, .inr (9, [.null, .null, .null]))] sz)) 2 60 (va_A [(h0, .inr (9, [.null, .null, .null]))] sz) := by
  refine met_inC (by decide) rfl (Nat.le_of_ble_eq_true rfl) ?_
  intro p e s m args below meth c ls C hin hsz hP hD hS hA hl
  have C : Cx p s m args meth c cX9_init 2 none RX9 D (tyL g) := C
  obtain ⟨hx, hb, hr, hml, hown, ht, hlocks, hK, hN⟩ := id C
  have hl : lv_has ls 2 [(0, .ref h0), (1, .ref hp)] := hl
  refine lv_aload_n hx hb dX9_init_0 rfl (lv_at hl 0 rfl) ?_
  refine W.objInit hx hb hown (ht _ wd_163) (ht _ wd_22) (ht _ wd_23) rfl (by rw [hml]; exact hl.1) rfl dX9_init_1 (Nat.le_of_ble_eq_true rfl) (Nat.le_of_ble_eq_true rfl) ?_
  refine W.eq (g2 := F0 m 4 ls []) rfl ?_
  refine lv_aload_n hx hb dX9_init_4 rfl (lv_at hl 0 rfl) ?_
  refine lv_bipush (v := 30) hx hb dX9_init_5 (by decide) ?_
  refine newI C hP hD hS hA 30 (by decide) (by decide) (by decide) (Nat.le_of_ble_eq_true rfl) (Nat.le_of_ble_eq_true rfl) dX9_init_7 (fun q1 H hP hD hS => ?_)
  have hP : va_P D clL [(h0, .inr (9, [.null, .null, .null])), (q1, .inl (g 0, 30, .inl (fun _ => 0)))] H := hP
  have hD : va_D (va_A [(h0, .inr (9, [.null, .null, .null]))] sz) [(h0, .inr (9, [.null, .null, .null])), (q1, .inl (g 0, 30, .inl (fun _ => 0)))] := hD
  refine W.widen (k := 1) (n := 30) (Nat.le_of_ble_eq_true rfl) (Nat.le_of_ble_eq_true rfl) ?_
  refine va_putF (D := D) (ci := 9) (v := .ref q1) (ty := .array .int) (C := RX9) (T := TX9) (N := 3) hx hb ht giX9 tyX9 tyX9_ok nmX9 hown hK hP hD hS 0 rfl rfl 1 (by decide) (ht _ wd_165) (fun _ h => h) rfl hin rfl (by decide +kernel) rfl rfl (Nat.le_of_ble_eq_true rfl) dX9_init_9 (fun H locs hP hD hS => ?_)
  have hP : va_P D clL [(h0, .inr (9, [.null, .ref q1, .null])), (q1, .inl (g 0, 30, .inl (fun _ => 0)))] H := hP
  have hD : va_D (va_A [(h0, .inr (9, [.null, .null, .null]))] sz) [(h0, .inr (9, [.null, .ref q1, .null])), (q1, .inl (g 0, 30, .inl (fun _ => 0)))] := hD
  refine lv_aload_n hx hb dX9_init_12 rfl (lv_at hl 0 rfl) ?_
  refine lv_bipush (v := 30) hx hb dX9_init_13 (by decide) ?_
  refine newI C hP hD hS hA 30 (by decide) (by decide) (by decide) (Nat.le_of_ble_eq_true rfl) (Nat.le_of_ble_eq_true rfl) dX9_init_15 (fun q2 H hP hD hS => ?_)
  have hP : va_P D clL [(h0, .inr (9, [.null, .ref q1, .null])), (q1, .inl (g 0, 30, .inl (fun _ => 0))), (q2, .inl (g 0, 30, .inl (fun _ => 0)))] H := hP
  have hD : va_D (va_A [(h0, .inr (9, [.null, .null, .null]))] sz) [(h0, .inr (9, [.null, .ref q1, .null])), (q1, .inl (g 0, 30, .inl (fun _ => 0))), (q2, .inl (g 0, 30, .inl (fun _ => 0)))] := hD
  refine W.widen (k := 2) (n := 60) (Nat.le_of_ble_eq_true rfl) (Nat.le_of_ble_eq_true rfl) ?_
  refine va_putF (D := D) (ci := 9) (v := .ref q2) (ty := .array .int) (C := RX9) (T := TX9) (N := 3) hx hb ht giX9 tyX9 tyX9_ok nmX9 hown hK hP hD hS 0 rfl rfl 2 (by decide) (ht _ wd_166) (fun _ h => h) rfl hin rfl (by decide +kernel) rfl rfl (Nat.le_of_ble_eq_true rfl) dX9_init_17 (fun H locs hP hD hS => ?_)
  have hP : va_P D clL [(h0, .inr (9, [.null, .ref q1, .ref q2])), (q1, .inl (g 0, 30, .inl (fun _ => 0))), (q2, .inl (g 0, 30, .inl (fun _ => 0)))] H := hP
  have hD : va_D (va_A [(h0, .inr (9, [.null, .null, .null]))] sz) [(h0, .inr (9, [.null, .ref q1, .ref q2])), (q1, .inl (g 0, 30, .inl (fun _ => 0))), (q2, .inl (g 0, 30, .inl (fun _ => 0)))] := hD
  refine lv_aload_n hx hb dX9_init_20 rfl (lv_at hl 0 rfl) ?_
  refine lv_aload_n hx hb dX9_init_21 rfl (lv_at hl 1 rfl) ?_
  refine va_putF (D := D) (ci := 9) (v := .ref hp) (ty := .object "BreathSquare$Paving") (C := RX9) (T := TX9) (N := 3) hx hb ht giX9 tyX9 tyX9_ok nmX9 hown hK hP hD hS 0 rfl rfl 0 (by decide) (ht _ wd_164) (fun _ h => h) rfl hin rfl (by decide +kernel) rfl rfl (Nat.le_of_ble_eq_true rfl) dX9_init_22 (fun H locs hP hD hS => ?_)
  have hP : va_P D clL [(h0, .inr (9, [.ref hp, .ref q1, .ref q2])), (q1, .inl (g 0, 30, .inl (fun _ => 0))), (q2, .inl (g 0, 30, .inl (fun _ => 0)))] H := hP
  have hD : va_D (va_A [(h0, .inr (9, [.null, .null, .null]))] sz) [(h0, .inr (9, [.ref hp, .ref q1, .ref q2])), (q1, .inl (g 0, 30, .inl (fun _ => 0))), (q2, .inl (g 0, 30, .inl (fun _ => 0)))] := hD
  exact retC C (fun k => [h0, q1, q2].getD k 0) trivial hP hD hS dX9_init_25
theorem ok_X2_init : okI yX2_init cX2_init 2 1 := ⟨wd_178, wd_177, wd_10, ⟨by decide, by decide, by decide⟩, rfl⟩
def nX2_init (g : Nat → ClassId) (h0 : Nat) (hp : Nat) (q : Nat → Nat) : va_W := [(h0, .inr (2, [.ref hp, .ref (q 1)])), ((q 1), .inl (g 0, 30, .inl (fun _ => 0)))]
set_option maxHeartbeats 4000000 in
set_option maxRecDepth 100000 in
theorem c_X2_init (l : Launch) (D : va_G) (g : Nat → ClassId) (h0 sz : Nat) (hp : Nat) : Met l yX2_init (cW yX2_init cX2_init 2 none) ({ frames := 1, cells := 1, slots := 30, locals := 20 } : Room) (PwZ sz D (tyL g) [(h0, .inr (2, [.null, .null]))] [.ref h0, .ref hp]) (CtQ D (nX2_init g h0 hp) (fun _ => True) (va_A [(h0, .inr (2, [.null, .null]))] sz)) 1 30 (va_A [(h0, .inr (2, [.null, .null]))] sz) := by
  refine met_inC (by decide) rfl (Nat.le_of_ble_eq_true rfl) ?_
  intro p e s m args below meth c ls C hin hsz hP hD hS hA hl
  have C : Cx p s m args meth c cX2_init 2 none RX2 D (tyL g) := C
  obtain ⟨hx, hb, hr, hml, hown, ht, hlocks, hK, hN⟩ := id C
  have hl : lv_has ls 2 [(0, .ref h0), (1, .ref hp)] := hl
  refine lv_aload_n hx hb dX2_init_0 rfl (lv_at hl 0 rfl) ?_
  refine W.objInit hx hb hown (ht _ wd_179) (ht _ wd_22) (ht _ wd_23) rfl (by rw [hml]; exact hl.1) rfl dX2_init_1 (Nat.le_of_ble_eq_true rfl) (Nat.le_of_ble_eq_true rfl) ?_
  refine W.eq (g2 := F0 m 4 ls []) rfl ?_
  refine lv_aload_n hx hb dX2_init_4 rfl (lv_at hl 0 rfl) ?_
  refine lv_bipush (v := 30) hx hb dX2_init_5 (by decide) ?_
  refine newI C hP hD hS hA 30 (by decide) (by decide) (by decide) (Nat.le_of_ble_eq_true rfl) (Nat.le_of_ble_eq_true rfl) dX2_init_7 (fun q1 H hP hD hS => ?_)
  have hP : va_P D clL [(h0, .inr (2, [.null, .null])), (q1, .inl (g 0, 30, .inl (fun _ => 0)))] H := hP
  have hD : va_D (va_A [(h0, .inr (2, [.null, .null]))] sz) [(h0, .inr (2, [.null, .null])), (q1, .inl (g 0, 30, .inl (fun _ => 0)))] := hD
  refine W.widen (k := 1) (n := 30) (Nat.le_of_ble_eq_true rfl) (Nat.le_of_ble_eq_true rfl) ?_
  refine va_putF (D := D) (ci := 2) (v := .ref q1) (ty := .array .int) (C := RX2) (T := TX2) (N := 2) hx hb ht giX2 tyX2 tyX2_ok nmX2 hown hK hP hD hS 0 rfl rfl 1 (by decide) (ht _ wd_181) (fun _ h => h) rfl hin rfl (by decide +kernel) rfl rfl (Nat.le_of_ble_eq_true rfl) dX2_init_9 (fun H locs hP hD hS => ?_)
  have hP : va_P D clL [(h0, .inr (2, [.null, .ref q1])), (q1, .inl (g 0, 30, .inl (fun _ => 0)))] H := hP
  have hD : va_D (va_A [(h0, .inr (2, [.null, .null]))] sz) [(h0, .inr (2, [.null, .ref q1])), (q1, .inl (g 0, 30, .inl (fun _ => 0)))] := hD
  refine lv_aload_n hx hb dX2_init_12 rfl (lv_at hl 0 rfl) ?_
  refine lv_aload_n hx hb dX2_init_13 rfl (lv_at hl 1 rfl) ?_
  refine va_putF (D := D) (ci := 2) (v := .ref hp) (ty := .object "BreathSquare$Paving") (C := RX2) (T := TX2) (N := 2) hx hb ht giX2 tyX2 tyX2_ok nmX2 hown hK hP hD hS 0 rfl rfl 0 (by decide) (ht _ wd_180) (fun _ h => h) rfl hin rfl (by decide +kernel) rfl rfl (Nat.le_of_ble_eq_true rfl) dX2_init_14 (fun H locs hP hD hS => ?_)
  have hP : va_P D clL [(h0, .inr (2, [.ref hp, .ref q1])), (q1, .inl (g 0, 30, .inl (fun _ => 0)))] H := hP
  have hD : va_D (va_A [(h0, .inr (2, [.null, .null]))] sz) [(h0, .inr (2, [.ref hp, .ref q1])), (q1, .inl (g 0, 30, .inl (fun _ => 0)))] := hD
  exact retC C (fun k => [h0, q1].getD k 0) trivial hP hD hS dX2_init_17
theorem ok_X5_init : okI yX5_init cX5_init 2 1 := ⟨wd_191, wd_190, wd_11, ⟨by decide, by decide, by decide⟩, rfl⟩
def nX5_init (g : Nat → ClassId) (h0 : Nat) (hp : Nat) (q : Nat → Nat) : va_W := [(h0, .inr (5, [.ref hp, .ref (q 1), .ref (q 2), .ref (q 3), .int 0])), ((q 1), .inl (g 0, 10, .inl (fun _ => 0))), ((q 2), .inl (g 0, 10, .inl (fun _ => 0))), ((q 3), .inl (g 0, 10, .inl (fun _ => 0)))]
set_option maxHeartbeats 4000000 in
set_option maxRecDepth 100000 in
theorem c_X5_init (l : Launch) (D : va_G) (g : Nat → ClassId) (h0 sz : Nat) (hp : Nat) : Met l yX5_init (cW yX5_init cX5_init 2 none) ({ frames := 1, cells := 3, slots := 30, locals := 20 } : Room) (PwZ sz D (tyL g) [(h0, .inr (5, [.null, .null, .null, .null, .int 0]))] [.ref h0, .ref hp]) (CtQ D (nX5_init g h0 hp) (fun _ => True) (va_A [(h0, .inr (5, [.null, .null, .null, .null, .int 0]))] sz)) 3 30 (va_A [(h0, .inr (5, [.null, .null, .null, .null, .int 0]))] sz) := by
  refine met_inC (by decide) rfl (Nat.le_of_ble_eq_true rfl) ?_
  intro p e s m args below meth c ls C hin hsz hP hD hS hA hl
  have C : Cx p s m args meth c cX5_init 2 none RX5 D (tyL g) := C
  obtain ⟨hx, hb, hr, hml, hown, ht, hlocks, hK, hN⟩ := id C
  have hl : lv_has ls 2 [(0, .ref h0), (1, .ref hp)] := hl
  refine lv_aload_n hx hb dX5_init_0 rfl (lv_at hl 0 rfl) ?_
  refine W.objInit hx hb hown (ht _ wd_192) (ht _ wd_22) (ht _ wd_23) rfl (by rw [hml]; exact hl.1) rfl dX5_init_1 (Nat.le_of_ble_eq_true rfl) (Nat.le_of_ble_eq_true rfl) ?_
  refine W.eq (g2 := F0 m 4 ls []) rfl ?_
  refine lv_aload_n hx hb dX5_init_4 rfl (lv_at hl 0 rfl) ?_
  refine lv_bipush (v := 10) hx hb dX5_init_5 (by decide) ?_
  refine newI C hP hD hS hA 10 (by decide) (by decide) (by decide) (Nat.le_of_ble_eq_true rfl) (Nat.le_of_ble_eq_true rfl) dX5_init_7 (fun q1 H hP hD hS => ?_)
  have hP : va_P D clL [(h0, .inr (5, [.null, .null, .null, .null, .int 0])), (q1, .inl (g 0, 10, .inl (fun _ => 0)))] H := hP
  have hD : va_D (va_A [(h0, .inr (5, [.null, .null, .null, .null, .int 0]))] sz) [(h0, .inr (5, [.null, .null, .null, .null, .int 0])), (q1, .inl (g 0, 10, .inl (fun _ => 0)))] := hD
  refine W.widen (k := 1) (n := 10) (Nat.le_of_ble_eq_true rfl) (Nat.le_of_ble_eq_true rfl) ?_
  refine va_putF (D := D) (ci := 5) (v := .ref q1) (ty := .array .int) (C := RX5) (T := TX5) (N := 5) hx hb ht giX5 tyX5 tyX5_ok nmX5 hown hK hP hD hS 0 rfl rfl 1 (by decide) (ht _ wd_194) (fun _ h => h) rfl hin rfl (by decide +kernel) rfl rfl (Nat.le_of_ble_eq_true rfl) dX5_init_9 (fun H locs hP hD hS => ?_)
  have hP : va_P D clL [(h0, .inr (5, [.null, .ref q1, .null, .null, .int 0])), (q1, .inl (g 0, 10, .inl (fun _ => 0)))] H := hP
  have hD : va_D (va_A [(h0, .inr (5, [.null, .null, .null, .null, .int 0]))] sz) [(h0, .inr (5, [.null, .ref q1, .null, .null, .int 0])), (q1, .inl (g 0, 10, .inl (fun _ => 0)))] := hD
  refine lv_aload_n hx hb dX5_init_12 rfl (lv_at hl 0 rfl) ?_
  refine lv_bipush (v := 10) hx hb dX5_init_13 (by decide) ?_
  refine newI C hP hD hS hA 10 (by decide) (by decide) (by decide) (Nat.le_of_ble_eq_true rfl) (Nat.le_of_ble_eq_true rfl) dX5_init_15 (fun q2 H hP hD hS => ?_)
  have hP : va_P D clL [(h0, .inr (5, [.null, .ref q1, .null, .null, .int 0])), (q1, .inl (g 0, 10, .inl (fun _ => 0))), (q2, .inl (g 0, 10, .inl (fun _ => 0)))] H := hP
  have hD : va_D (va_A [(h0, .inr (5, [.null, .null, .null, .null, .int 0]))] sz) [(h0, .inr (5, [.null, .ref q1, .null, .null, .int 0])), (q1, .inl (g 0, 10, .inl (fun _ => 0))), (q2, .inl (g 0, 10, .inl (fun _ => 0)))] := hD
  refine W.widen (k := 2) (n := 20) (Nat.le_of_ble_eq_true rfl) (Nat.le_of_ble_eq_true rfl) ?_
  refine va_putF (D := D) (ci := 5) (v := .ref q2) (ty := .array .int) (C := RX5) (T := TX5) (N := 5) hx hb ht giX5 tyX5 tyX5_ok nmX5 hown hK hP hD hS 0 rfl rfl 2 (by decide) (ht _ wd_195) (fun _ h => h) rfl hin rfl (by decide +kernel) rfl rfl (Nat.le_of_ble_eq_true rfl) dX5_init_17 (fun H locs hP hD hS => ?_)
  have hP : va_P D clL [(h0, .inr (5, [.null, .ref q1, .ref q2, .null, .int 0])), (q1, .inl (g 0, 10, .inl (fun _ => 0))), (q2, .inl (g 0, 10, .inl (fun _ => 0)))] H := hP
  have hD : va_D (va_A [(h0, .inr (5, [.null, .null, .null, .null, .int 0]))] sz) [(h0, .inr (5, [.null, .ref q1, .ref q2, .null, .int 0])), (q1, .inl (g 0, 10, .inl (fun _ => 0))), (q2, .inl (g 0, 10, .inl (fun _ => 0)))] := hD
  refine lv_aload_n hx hb dX5_init_20 rfl (lv_at hl 0 rfl) ?_
  refine lv_bipush (v := 10) hx hb dX5_init_21 (by decide) ?_
  refine newI C hP hD hS hA 10 (by decide) (by decide) (by decide) (Nat.le_of_ble_eq_true rfl) (Nat.le_of_ble_eq_true rfl) dX5_init_23 (fun q3 H hP hD hS => ?_)
  have hP : va_P D clL [(h0, .inr (5, [.null, .ref q1, .ref q2, .null, .int 0])), (q1, .inl (g 0, 10, .inl (fun _ => 0))), (q2, .inl (g 0, 10, .inl (fun _ => 0))), (q3, .inl (g 0, 10, .inl (fun _ => 0)))] H := hP
  have hD : va_D (va_A [(h0, .inr (5, [.null, .null, .null, .null, .int 0]))] sz) [(h0, .inr (5, [.null, .ref q1, .ref q2, .null, .int 0])), (q1, .inl (g 0, 10, .inl (fun _ => 0))), (q2, .inl (g 0, 10, .inl (fun _ => 0))), (q3, .inl (g 0, 10, .inl (fun _ => 0)))] := hD
  refine W.widen (k := 3) (n := 30) (Nat.le_of_ble_eq_true rfl) (Nat.le_of_ble_eq_true rfl) ?_
  refine va_putF (D := D) (ci := 5) (v := .ref q3) (ty := .array .int) (C := RX5) (T := TX5) (N := 5) hx hb ht giX5 tyX5 tyX5_ok nmX5 hown hK hP hD hS 0 rfl rfl 3 (by decide) (ht _ wd_196) (fun _ h => h) rfl hin rfl (by decide +kernel) rfl rfl (Nat.le_of_ble_eq_true rfl) dX5_init_25 (fun H locs hP hD hS => ?_)
  have hP : va_P D clL [(h0, .inr (5, [.null, .ref q1, .ref q2, .ref q3, .int 0])), (q1, .inl (g 0, 10, .inl (fun _ => 0))), (q2, .inl (g 0, 10, .inl (fun _ => 0))), (q3, .inl (g 0, 10, .inl (fun _ => 0)))] H := hP
  have hD : va_D (va_A [(h0, .inr (5, [.null, .null, .null, .null, .int 0]))] sz) [(h0, .inr (5, [.null, .ref q1, .ref q2, .ref q3, .int 0])), (q1, .inl (g 0, 10, .inl (fun _ => 0))), (q2, .inl (g 0, 10, .inl (fun _ => 0))), (q3, .inl (g 0, 10, .inl (fun _ => 0)))] := hD
  refine lv_aload_n hx hb dX5_init_28 rfl (lv_at hl 0 rfl) ?_
  refine lv_aload_n hx hb dX5_init_29 rfl (lv_at hl 1 rfl) ?_
  refine va_putF (D := D) (ci := 5) (v := .ref hp) (ty := .object "BreathSquare$Paving") (C := RX5) (T := TX5) (N := 5) hx hb ht giX5 tyX5 tyX5_ok nmX5 hown hK hP hD hS 0 rfl rfl 0 (by decide) (ht _ wd_193) (fun _ h => h) rfl hin rfl (by decide +kernel) rfl rfl (Nat.le_of_ble_eq_true rfl) dX5_init_30 (fun H locs hP hD hS => ?_)
  have hP : va_P D clL [(h0, .inr (5, [.ref hp, .ref q1, .ref q2, .ref q3, .int 0])), (q1, .inl (g 0, 10, .inl (fun _ => 0))), (q2, .inl (g 0, 10, .inl (fun _ => 0))), (q3, .inl (g 0, 10, .inl (fun _ => 0)))] H := hP
  have hD : va_D (va_A [(h0, .inr (5, [.null, .null, .null, .null, .int 0]))] sz) [(h0, .inr (5, [.ref hp, .ref q1, .ref q2, .ref q3, .int 0])), (q1, .inl (g 0, 10, .inl (fun _ => 0))), (q2, .inl (g 0, 10, .inl (fun _ => 0))), (q3, .inl (g 0, 10, .inl (fun _ => 0)))] := hD
  exact retC C (fun k => [h0, q1, q2, q3].getD k 0) trivial hP hD hS dX5_init_33
