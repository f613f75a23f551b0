section KL
variable {p : Program} {l : Launch} {e : Env} {R : Room} {s : State} {m : MethodId} {args : Array Value} {below : List Frame} {meth : Method} {c : Code} {H : Heap} {locs : List Loc} {cells slots : Nat} {Q : State → Prop} {D : va_G} {pc : Nat} {ls : Array Slot} {rest st : List Value} {a : Array Value}
theorem kL {v : Value} {w' w2 : va_W} {A0 A : Nat → Prop} {H0 : Heap} (hr : va_Run p l e R s m args below meth c H locs cells slots 0 0 (F0 m pc ls st) rest (WrQ D w' A v a) A) (hS : va_S A0 H0 H locs) (hA : ∀ q, A q → A0 q) (h2 : va_P D clL w2 H) (hd : ∀ (k : Nat) (q : Nat × va_E), w2[k]? = some q → ¬ A q.1) (kk : ∀ (H1 : Heap) (locs1 : List Loc), va_P D clL w' H1 → va_P D clL w2 H1 → va_S A0 H0 H1 locs1 → W p l e R s m args below meth c H1 locs1 cells slots Q (F0 m (pc + 3) ls (v :: rest))) : W p l e R s m args below meth c H locs cells slots Q (F0 m pc ls st) := by
  intro T hT X
  obtain ⟨v', st₀, t, T', L, h0, X', hL, e1, e2, ⟨hv, hp, hz, hk⟩, stp⟩ := hr T hT X
  cases hv
  rw [h0] at hz hk
  have h2' : va_P D clL w2 T'.heap := h2.kept (fun k q hq => by rw [e1]; exact hk q.1 ((h2 k q hq).lt) (hd k q hq))
  obtain ⟨t2, a1, b1⟩ := kk T'.heap (locs ++ L) (by rw [e1]; exact hp) h2'
    ⟨Nat.le_trans hS.1 (by rw [e1]; exact hz), fun q h1 h2 => by rw [e1, hk q (Nat.lt_of_lt_of_le h1 hS.1) (fun z => h2 (hA q z))]; exact hS.2.1 q h1 h2, fun q hq => by
      rcases List.mem_append.mp hq with h | h
      · exact hS.2.2 q h
      · exact hA _ (hL q h)⟩ T' rfl X'
  exact ⟨t2, stp t2 a1, b1⟩
end KL
/-- what stays through the law's loop -/
def LwC (p : Program) (s : State) (m : MethodId) (meth : Method) (c : Code) (b0 L : Nat) (xs : Nat → Int32) (D : va_G) (g : Nat → ClassId) (a b : Nat → Nat) : Prop :=
  Cx p s m #[Value.ref b0] meth c cL_law 4 ret R_law D (tyL g) ∧ va_X b0 L xs s s.heap ∧ b0 < s.heap.size ∧ Inj a 41 ∧ Inj b 18 ∧ (∀ i j, i < 41 → j < 18 → a i ≠ b j) ∧ (∀ i, i < 41 → s.heap.size ≤ a i) ∧ (∀ i, i < 18 → s.heap.size ≤ b i) ∧ L ≤ 3072
abbrev aLw (s : State) : Nat → Prop := fun q => s.heap.size ≤ q
/-- the law's loop at its head, with i ints read -/
def LwS (p : Program) (l : Launch) (e : Env) (s : State) (m : MethodId) (below : List Frame) (meth : Method) (c : Code) (b0 : Nat) (D : va_G) (g : Nat → ClassId) (a b : Nat → Nat) (i : Nat) : Prop :=
  ∀ (Mc Mm : Mem) (H : Heap) (locs : List Loc) (ls : Array Slot), Sim Mc Mm → va_P D clL (wC g a Mc) H → va_P D clL (wM g b Mm) H → va_S (aLw s) s.heap H locs → lv_has ls 4 [(0, .ref b0), (1, .ref (a 0)), (2, .ref (b 0)), (3, .int (nI i))] → W p l e room_1 s m #[Value.ref b0] below meth c H locs 59 1562 (lw_Z below #[Value.ref b0] s) (F0 m 18 ls [])
theorem dCM {g : Nat → ClassId} {a b : Nat → Nat} {Mm : Mem} (hd : ∀ i j, i < 41 → j < 18 → a i ≠ b j) : ∀ (k : Nat) (q : Nat × va_E), (wM g b Mm)[k]? = some q → ¬ inA a 41 q.1 := fun k q hk ⟨i, hi, e⟩ => by
  obtain ⟨h1, e1⟩ := wM_at hk
  exact hd i k hi h1 (by rw [← e, e1])
theorem dMC {g : Nat → ClassId} {a b : Nat → Nat} {Mc : Mem} (hd : ∀ i j, i < 41 → j < 18 → a i ≠ b j) : ∀ (k : Nat) (q : Nat × va_E), (wC g a Mc)[k]? = some q → ¬ inA b 18 q.1 := fun k q hk ⟨i, hi, e⟩ => by
  obtain ⟨h1, e1⟩ := wC_at hk
  exact hd k i h1 hi (by rw [← e1, e])
theorem aIn {s : State} {a : Nat → Nat} {n : Nat} (h : ∀ i, i < n → s.heap.size ≤ a i) : ∀ q, inA a n q → aLw s q := fun q ⟨i, hi, e⟩ => by rw [e]; exact h i hi
theorem xin {i k L : Nat} (h : i + 6 ≤ L) (hk : k < 6) (hL : L ≤ 3072) : vp_in (nI i + nI k) L := by
  rw [nI_add]; exact vp_in_nI (by omega) (by omega)
theorem fa_ltx {a b c : Int32} (h : a < b) (h2 : b ≤ c) : a < c := by
  have e1 := Int32.lt_iff_toInt_lt.mp h
  have e2 := Int32.le_iff_toInt_le.mp h2
  exact Int32.lt_iff_toInt_lt.mpr (by omega)
theorem lgc0 (x : Int64) : lg_cmp x x = 0 := by simp [lg_cmp]
set_option maxHeartbeats 4000000 in
set_option maxRecDepth 100000 in
theorem law_0 {p : Program} {l : Launch} {e : Env} {s : State} {m : MethodId} {below : List Frame} {meth : Method} {c : Code} {b0 L : Nat} {xs : Nat → Int32} {D : va_G} {g : Nat → ClassId} {a b : Nat → Nat} (K : LwC p s m meth c b0 L xs D g a b) {i : Nat} (hi : i + 6 ≤ L) (ih : LwS p l e s m below meth c b0 D g a b (i + 6)) (Mc Mm : Mem) (H : Heap) (locs : List Loc) (ls : Array Slot) (hM : Sim Mc Mm) (hP : va_P D clL (wC g a Mc) H) (hQ : va_P D clL (wM g b Mm) H) (hS : va_S (aLw s) s.heap H locs) (hl : lv_has ls 4 [(0, .ref b0), (1, .ref (a 0)), (2, .ref (b 0)), (3, .int (nI i))]) : W p l e room_1 s m #[Value.ref b0] below meth c H locs 59 1562 (lw_Z below #[Value.ref b0] s) (F0 m 176 ls []) := by
  obtain ⟨C, hX, hbl, hJa, hJb, hdis, ha, hb0, hL⟩ := K
  obtain ⟨hx, hb, hr, hml, hown, ht, hlocks, hK, hN⟩ := id C
  have hbA : ¬ aLw s b0 := Nat.not_le.mpr hbl
  obtain ⟨z1, ez1⟩ : ∃ y, y = (xs (nI i + 1).toNatClampNeg) := ⟨_, rfl⟩
  obtain ⟨z2, ez2⟩ : ∃ y, y = (xs (nI i + 2).toNatClampNeg) := ⟨_, rfl⟩
  obtain ⟨z3, ez3⟩ : ∃ y, y = (xs (nI i + 3).toNatClampNeg) := ⟨_, rfl⟩
  obtain ⟨z4, ez4⟩ : ∃ y, y = (xs (nI i + 4).toNatClampNeg) := ⟨_, rfl⟩
  obtain ⟨r, Mc', Mm', e1, e2, hM⟩ := sim_square hM z1 z2 z3 z4
  refine lv_aload_n hx hb dL_law_176 rfl (lv_at hl 1 rfl) ?_
  refine lv_aload_n hx hb dL_law_177 rfl (lv_at hl 0 rfl) ?_
  refine lv_iload_n hx hb dL_law_178 rfl (lv_at hl 3 rfl) ?_
  refine lv_iconst (v := 1) hx hb dL_law_179 (by decide) ?_
  refine lv_iadd hx hb dL_law_180 ?_
  refine va_sld hx hb hX hbl hbA hS (xin (k := 1) hi (by decide) hL) dL_law_181 ?_
  rw [← ez1]
  refine lv_aload_n hx hb dL_law_182 rfl (lv_at hl 0 rfl) ?_
  refine lv_iload_n hx hb dL_law_183 rfl (lv_at hl 3 rfl) ?_
  refine lv_iconst (v := 2) hx hb dL_law_184 (by decide) ?_
  refine lv_iadd hx hb dL_law_185 ?_
  refine va_sld hx hb hX hbl hbA hS (xin (k := 2) hi (by decide) hL) dL_law_186 ?_
  rw [← ez2]
  refine lv_aload_n hx hb dL_law_187 rfl (lv_at hl 0 rfl) ?_
  refine lv_iload_n hx hb dL_law_188 rfl (lv_at hl 3 rfl) ?_
  refine lv_iconst (v := 3) hx hb dL_law_189 (by decide) ?_
  refine lv_iadd hx hb dL_law_190 ?_
  refine va_sld hx hb hX hbl hbA hS (xin (k := 3) hi (by decide) hL) dL_law_191 ?_
  rw [← ez3]
  refine lv_aload_n hx hb dL_law_192 rfl (lv_at hl 0 rfl) ?_
  refine lv_iload_n hx hb dL_law_193 rfl (lv_at hl 3 rfl) ?_
  refine lv_iconst (v := 4) hx hb dL_law_194 (by decide) ?_
  refine lv_iadd hx hb dL_law_195 ?_
  refine va_sld hx hb hX hbl hbA hS (xin (k := 4) hi (by decide) hL) dL_law_196 ?_
  rw [← ez4]
  refine kL (rV (rest := []) C (c_X11_square l D g a hJa NN Mc z1 z2 z3 z4 r Mc' e1) ok_X11_square wd_258 hP 0 (aC_0 g a Mc) rfl ⟨rfl, rfl, Nat.le_of_ble_eq_true rfl, Nat.le_of_ble_eq_true rfl⟩ rfl hl.1 rfl (Nat.le_of_ble_eq_true rfl) dL_law_197 ⟨Nat.le_of_ble_eq_true rfl, Nat.le_of_ble_eq_true rfl⟩) hS (aIn ha) hQ (dCM hdis) (fun H locs hP hQ hS => ?_)
  refine lv_aload_n hx hb dL_law_200 rfl (lv_at hl 2 rfl) ?_
  refine lv_aload_n hx hb dL_law_201 rfl (lv_at hl 0 rfl) ?_
  refine lv_iload_n hx hb dL_law_202 rfl (lv_at hl 3 rfl) ?_
  refine lv_iconst (v := 1) hx hb dL_law_203 (by decide) ?_
  refine lv_iadd hx hb dL_law_204 ?_
  refine va_sld hx hb hX hbl hbA hS (xin (k := 1) hi (by decide) hL) dL_law_205 ?_
  rw [← ez1]
  refine lv_aload_n hx hb dL_law_206 rfl (lv_at hl 0 rfl) ?_
  refine lv_iload_n hx hb dL_law_207 rfl (lv_at hl 3 rfl) ?_
  refine lv_iconst (v := 2) hx hb dL_law_208 (by decide) ?_
  refine lv_iadd hx hb dL_law_209 ?_
  refine va_sld hx hb hX hbl hbA hS (xin (k := 2) hi (by decide) hL) dL_law_210 ?_
  rw [← ez2]
  refine lv_aload_n hx hb dL_law_211 rfl (lv_at hl 0 rfl) ?_
  refine lv_iload_n hx hb dL_law_212 rfl (lv_at hl 3 rfl) ?_
  refine lv_iconst (v := 3) hx hb dL_law_213 (by decide) ?_
  refine lv_iadd hx hb dL_law_214 ?_
  refine va_sld hx hb hX hbl hbA hS (xin (k := 3) hi (by decide) hL) dL_law_215 ?_
  rw [← ez3]
  refine lv_aload_n hx hb dL_law_216 rfl (lv_at hl 0 rfl) ?_
  refine lv_iload_n hx hb dL_law_217 rfl (lv_at hl 3 rfl) ?_
  refine lv_iconst (v := 4) hx hb dL_law_218 (by decide) ?_
  refine lv_iadd hx hb dL_law_219 ?_
  refine va_sld hx hb hX hbl hbA hS (xin (k := 4) hi (by decide) hL) dL_law_220 ?_
  rw [← ez4]
  refine kL (rV (rest := [.int r]) C (c_X12_square l D g b hJb NN Mm z1 z2 z3 z4 r Mm' e2) ok_X12_square wd_809 hQ 0 (aM_0 g b Mm) rfl ⟨rfl, rfl, Nat.le_of_ble_eq_true rfl, Nat.le_of_ble_eq_true rfl⟩ rfl hl.1 rfl (Nat.le_of_ble_eq_true rfl) dL_law_221 ⟨Nat.le_of_ble_eq_true rfl, Nat.le_of_ble_eq_true rfl⟩) hS (aIn hb0) hP (dMC hdis) (fun H locs hQ hP hS => ?_)
  refine lv_icmp_eq (tgt := 1333) hx hb dL_law_224 (by decide) (fun _ => ?_) (fun q => absurd rfl q)
  refine lv_iinc (v := nI (i + 6)) (lv' := [(3, .int (nI (i + 6))), (0, .ref b0), (1, .ref (a 0)), (2, .ref (b 0))]) hx hb dL_law_1333 hl (k := 3) rfl (by rw [← nI_add]; rfl) (by decide) rfl (fun ls hl => ?_)
  refine lv_goto (tgt := 18) hx hb dL_law_1336 (by decide) ?_
  exact ih Mc' Mm' H locs ls hM hP hQ hS (lv_sub hl [1, 2, 3, 0] rfl)
set_option maxHeartbeats 4000000 in
set_option maxRecDepth 100000 in
theorem law_1 {p : Program} {l : Launch} {e : Env} {s : State} {m : MethodId} {below : List Frame} {meth : Method} {c : Code} {b0 L : Nat} {xs : Nat → Int32} {D : va_G} {g : Nat → ClassId} {a b : Nat → Nat} (K : LwC p s m meth c b0 L xs D g a b) {i : Nat} (hi : i + 6 ≤ L) (ih : LwS p l e s m below meth c b0 D g a b (i + 6)) (Mc Mm : Mem) (H : Heap) (locs : List Loc) (ls : Array Slot) (hM : Sim Mc Mm) (hP : va_P D clL (wC g a Mc) H) (hQ : va_P D clL (wM g b Mm) H) (hS : va_S (aLw s) s.heap H locs) (hl : lv_has ls 4 [(0, .ref b0), (1, .ref (a 0)), (2, .ref (b 0)), (3, .int (nI i))]) : W p l e room_1 s m #[Value.ref b0] below meth c H locs 59 1562 (lw_Z below #[Value.ref b0] s) (F0 m 229 ls []) := by
  obtain ⟨C, hX, hbl, hJa, hJb, hdis, ha, hb0, hL⟩ := K
  obtain ⟨hx, hb, hr, hml, hown, ht, hlocks, hK, hN⟩ := id C
  have hbA : ¬ aLw s b0 := Nat.not_le.mpr hbl
  obtain ⟨z1, ez1⟩ : ∃ y, y = (xs (nI i + 1).toNatClampNeg) := ⟨_, rfl⟩
  obtain ⟨z2, ez2⟩ : ∃ y, y = (xs (nI i + 2).toNatClampNeg) := ⟨_, rfl⟩
  obtain ⟨r, e1, e2⟩ := sim_ofStone hM z1 z2
  refine lv_aload_n hx hb dL_law_229 rfl (lv_at hl 1 rfl) ?_
  refine lv_aload_n hx hb dL_law_230 rfl (lv_at hl 0 rfl) ?_
  refine lv_iload_n hx hb dL_law_231 rfl (lv_at hl 3 rfl) ?_
  refine lv_iconst (v := 1) hx hb dL_law_232 (by decide) ?_
  refine lv_iadd hx hb dL_law_233 ?_
  refine va_sld hx hb hX hbl hbA hS (xin (k := 1) hi (by decide) hL) dL_law_234 ?_
  rw [← ez1]
  refine lv_aload_n hx hb dL_law_235 rfl (lv_at hl 0 rfl) ?_
  refine lv_iload_n hx hb dL_law_236 rfl (lv_at hl 3 rfl) ?_
  refine lv_iconst (v := 2) hx hb dL_law_237 (by decide) ?_
  refine lv_iadd hx hb dL_law_238 ?_
  refine va_sld hx hb hX hbl hbA hS (xin (k := 2) hi (by decide) hL) dL_law_239 ?_
  rw [← ez2]
  refine kR (rV (rest := []) C (c_X11_ofStone l D g a Mc z1 z2 r e1) ok_X11_ofStone wd_315 hP 0 (aC_0 g a Mc) rfl ⟨rfl, rfl, Nat.le_of_ble_eq_true rfl, Nat.le_of_ble_eq_true rfl⟩ rfl hl.1 rfl (Nat.le_of_ble_eq_true rfl) dL_law_240 ⟨Nat.le_of_ble_eq_true rfl, Nat.le_of_ble_eq_true rfl⟩) ?_
  refine lv_aload_n hx hb dL_law_243 rfl (lv_at hl 2 rfl) ?_
  refine lv_aload_n hx hb dL_law_244 rfl (lv_at hl 0 rfl) ?_
  refine lv_iload_n hx hb dL_law_245 rfl (lv_at hl 3 rfl) ?_
  refine lv_iconst (v := 1) hx hb dL_law_246 (by decide) ?_
  refine lv_iadd hx hb dL_law_247 ?_
  refine va_sld hx hb hX hbl hbA hS (xin (k := 1) hi (by decide) hL) dL_law_248 ?_
  rw [← ez1]
  refine lv_aload_n hx hb dL_law_249 rfl (lv_at hl 0 rfl) ?_
  refine lv_iload_n hx hb dL_law_250 rfl (lv_at hl 3 rfl) ?_
  refine lv_iconst (v := 2) hx hb dL_law_251 (by decide) ?_
  refine lv_iadd hx hb dL_law_252 ?_
  refine va_sld hx hb hX hbl hbA hS (xin (k := 2) hi (by decide) hL) dL_law_253 ?_
  rw [← ez2]
  refine kR (rV (rest := [.int r]) C (c_X12_ofStone l D g b Mm z1 z2 r e2) ok_X12_ofStone wd_846 hQ 0 (aM_0 g b Mm) rfl ⟨rfl, rfl, Nat.le_of_ble_eq_true rfl, Nat.le_of_ble_eq_true rfl⟩ rfl hl.1 rfl (Nat.le_of_ble_eq_true rfl) dL_law_254 ⟨Nat.le_of_ble_eq_true rfl, Nat.le_of_ble_eq_true rfl⟩) ?_
  refine lv_icmp_eq (tgt := 1333) hx hb dL_law_257 (by decide) (fun _ => ?_) (fun q => absurd rfl q)
  refine lv_iinc (v := nI (i + 6)) (lv' := [(3, .int (nI (i + 6))), (0, .ref b0), (1, .ref (a 0)), (2, .ref (b 0))]) hx hb dL_law_1333 hl (k := 3) rfl (by rw [← nI_add]; rfl) (by decide) rfl (fun ls hl => ?_)
  refine lv_goto (tgt := 18) hx hb dL_law_1336 (by decide) ?_
  exact ih Mc Mm H locs ls hM hP hQ hS (lv_sub hl [1, 2, 3, 0] rfl)
set_option maxHeartbeats 4000000 in
set_option maxRecDepth 100000 in
theorem law_2 {p : Program} {l : Launch} {e : Env} {s : State} {m : MethodId} {below : List Frame} {meth : Method} {c : Code} {b0 L : Nat} {xs : Nat → Int32} {D : va_G} {g : Nat → ClassId} {a b : Nat → Nat} (K : LwC p s m meth c b0 L xs D g a b) {i : Nat} (hi : i + 6 ≤ L) (ih : LwS p l e s m below meth c b0 D g a b (i + 6)) (Mc Mm : Mem) (H : Heap) (locs : List Loc) (ls : Array Slot) (hM : Sim Mc Mm) (hP : va_P D clL (wC g a Mc) H) (hQ : va_P D clL (wM g b Mm) H) (hS : va_S (aLw s) s.heap H locs) (hl : lv_has ls 4 [(0, .ref b0), (1, .ref (a 0)), (2, .ref (b 0)), (3, .int (nI i))]) : W p l e room_1 s m #[Value.ref b0] below meth c H locs 59 1562 (lw_Z below #[Value.ref b0] s) (F0 m 262 ls []) := by
  obtain ⟨C, hX, hbl, hJa, hJb, hdis, ha, hb0, hL⟩ := K
  obtain ⟨hx, hb, hr, hml, hown, ht, hlocks, hK, hN⟩ := id C
  have hbA : ¬ aLw s b0 := Nat.not_le.mpr hbl
  obtain ⟨z1, ez1⟩ : ∃ y, y = (xs (nI i + 1).toNatClampNeg) := ⟨_, rfl⟩
  obtain ⟨z2, ez2⟩ : ∃ y, y = (xs (nI i + 2).toNatClampNeg) := ⟨_, rfl⟩
  obtain ⟨z3, ez3⟩ : ∃ y, y = (xs (nI i + 3).toNatClampNeg) := ⟨_, rfl⟩
  obtain ⟨r, Mc', Mm', e1, e2, hM⟩ := sim_month hM z1 z2 z3
  refine lv_aload_n hx hb dL_law_262 rfl (lv_at hl 1 rfl) ?_
  refine lv_aload_n hx hb dL_law_263 rfl (lv_at hl 0 rfl) ?_
  refine lv_iload_n hx hb dL_law_264 rfl (lv_at hl 3 rfl) ?_
  refine lv_iconst (v := 1) hx hb dL_law_265 (by decide) ?_
  refine lv_iadd hx hb dL_law_266 ?_
  refine va_sld hx hb hX hbl hbA hS (xin (k := 1) hi (by decide) hL) dL_law_267 ?_
  rw [← ez1]
  refine lv_aload_n hx hb dL_law_268 rfl (lv_at hl 0 rfl) ?_
  refine lv_iload_n hx hb dL_law_269 rfl (lv_at hl 3 rfl) ?_
  refine lv_iconst (v := 2) hx hb dL_law_270 (by decide) ?_
  refine lv_iadd hx hb dL_law_271 ?_
  refine va_sld hx hb hX hbl hbA hS (xin (k := 2) hi (by decide) hL) dL_law_272 ?_
  rw [← ez2]
  refine lv_aload_n hx hb dL_law_273 rfl (lv_at hl 0 rfl) ?_
  refine lv_iload_n hx hb dL_law_274 rfl (lv_at hl 3 rfl) ?_
  refine lv_iconst (v := 3) hx hb dL_law_275 (by decide) ?_
  refine lv_iadd hx hb dL_law_276 ?_
  refine va_sld hx hb hX hbl hbA hS (xin (k := 3) hi (by decide) hL) dL_law_277 ?_
  rw [← ez3]
  refine kL (rV (rest := []) C (c_X11_month l D g a hJa Mc z1 z2 z3 r Mc' e1) ok_X11_month wd_323 hP 0 (aC_0 g a Mc) rfl ⟨rfl, rfl, Nat.le_of_ble_eq_true rfl, Nat.le_of_ble_eq_true rfl⟩ rfl hl.1 rfl (Nat.le_of_ble_eq_true rfl) dL_law_278 ⟨Nat.le_of_ble_eq_true rfl, Nat.le_of_ble_eq_true rfl⟩) hS (aIn ha) hQ (dCM hdis) (fun H locs hP hQ hS => ?_)
  refine lv_aload_n hx hb dL_law_281 rfl (lv_at hl 2 rfl) ?_
  refine lv_aload_n hx hb dL_law_282 rfl (lv_at hl 0 rfl) ?_
  refine lv_iload_n hx hb dL_law_283 rfl (lv_at hl 3 rfl) ?_
  refine lv_iconst (v := 1) hx hb dL_law_284 (by decide) ?_
  refine lv_iadd hx hb dL_law_285 ?_
  refine va_sld hx hb hX hbl hbA hS (xin (k := 1) hi (by decide) hL) dL_law_286 ?_
  rw [← ez1]
  refine lv_aload_n hx hb dL_law_287 rfl (lv_at hl 0 rfl) ?_
  refine lv_iload_n hx hb dL_law_288 rfl (lv_at hl 3 rfl) ?_
  refine lv_iconst (v := 2) hx hb dL_law_289 (by decide) ?_
  refine lv_iadd hx hb dL_law_290 ?_
  refine va_sld hx hb hX hbl hbA hS (xin (k := 2) hi (by decide) hL) dL_law_291 ?_
  rw [← ez2]
  refine lv_aload_n hx hb dL_law_292 rfl (lv_at hl 0 rfl) ?_
  refine lv_iload_n hx hb dL_law_293 rfl (lv_at hl 3 rfl) ?_
  refine lv_iconst (v := 3) hx hb dL_law_294 (by decide) ?_
  refine lv_iadd hx hb dL_law_295 ?_
  refine va_sld hx hb hX hbl hbA hS (xin (k := 3) hi (by decide) hL) dL_law_296 ?_
  rw [← ez3]
  refine kL (rV (rest := [.int r]) C (c_X12_month l D g b hJb Mm z1 z2 z3 r Mm' e2) ok_X12_month wd_854 hQ 0 (aM_0 g b Mm) rfl ⟨rfl, rfl, Nat.le_of_ble_eq_true rfl, Nat.le_of_ble_eq_true rfl⟩ rfl hl.1 rfl (Nat.le_of_ble_eq_true rfl) dL_law_297 ⟨Nat.le_of_ble_eq_true rfl, Nat.le_of_ble_eq_true rfl⟩) hS (aIn hb0) hP (dMC hdis) (fun H locs hQ hP hS => ?_)
  refine lv_icmp_eq (tgt := 1333) hx hb dL_law_300 (by decide) (fun _ => ?_) (fun q => absurd rfl q)
  refine lv_iinc (v := nI (i + 6)) (lv' := [(3, .int (nI (i + 6))), (0, .ref b0), (1, .ref (a 0)), (2, .ref (b 0))]) hx hb dL_law_1333 hl (k := 3) rfl (by rw [← nI_add]; rfl) (by decide) rfl (fun ls hl => ?_)
  refine lv_goto (tgt := 18) hx hb dL_law_1336 (by decide) ?_
  exact ih Mc' Mm' H locs ls hM hP hQ hS (lv_sub hl [1, 2, 3, 0] rfl)
set_option maxHeartbeats 4000000 in
set_option maxRecDepth 100000 in
theorem law_3 {p : Program} {l : Launch} {e : Env} {s : State} {m : MethodId} {below : List Frame} {meth : Method} {c : Code} {b0 L : Nat} {xs : Nat → Int32} {D : va_G} {g : Nat → ClassId} {a b : Nat → Nat} (K : LwC p s m meth c b0 L xs D g a b) {i : Nat} (hi : i + 6 ≤ L) (ih : LwS p l e s m below meth c b0 D g a b (i + 6)) (Mc Mm : Mem) (H : Heap) (locs : List Loc) (ls : Array Slot) (hM : Sim Mc Mm) (hP : va_P D clL (wC g a Mc) H) (hQ : va_P D clL (wM g b Mm) H) (hS : va_S (aLw s) s.heap H locs) (hl : lv_has ls 4 [(0, .ref b0), (1, .ref (a 0)), (2, .ref (b 0)), (3, .int (nI i))]) : W p l e room_1 s m #[Value.ref b0] below meth c H locs 59 1562 (lw_Z below #[Value.ref b0] s) (F0 m 305 ls []) := by
  obtain ⟨C, hX, hbl, hJa, hJb, hdis, ha, hb0, hL⟩ := K
  obtain ⟨hx, hb, hr, hml, hown, ht, hlocks, hK, hN⟩ := id C
  have hbA : ¬ aLw s b0 := Nat.not_le.mpr hbl
  obtain ⟨z1, ez1⟩ : ∃ y, y = (xs (nI i + 1).toNatClampNeg) := ⟨_, rfl⟩
  obtain ⟨z2, ez2⟩ : ∃ y, y = (xs (nI i + 2).toNatClampNeg) := ⟨_, rfl⟩
  obtain ⟨r, Mc', Mm', e1, e2, hM⟩ := sim_lift hM z1 z2
  refine lv_aload_n hx hb dL_law_305 rfl (lv_at hl 1 rfl) ?_
  refine lv_aload_n hx hb dL_law_306 rfl (lv_at hl 0 rfl) ?_
  refine lv_iload_n hx hb dL_law_307 rfl (lv_at hl 3 rfl) ?_
  refine lv_iconst (v := 1) hx hb dL_law_308 (by decide) ?_
  refine lv_iadd hx hb dL_law_309 ?_
  refine va_sld hx hb hX hbl hbA hS (xin (k := 1) hi (by decide) hL) dL_law_310 ?_
  rw [← ez1]
  refine lv_aload_n hx hb dL_law_311 rfl (lv_at hl 0 rfl) ?_
  refine lv_iload_n hx hb dL_law_312 rfl (lv_at hl 3 rfl) ?_
  refine lv_iconst (v := 2) hx hb dL_law_313 (by decide) ?_
  refine lv_iadd hx hb dL_law_314 ?_
  refine va_sld hx hb hX hbl hbA hS (xin (k := 2) hi (by decide) hL) dL_law_315 ?_
  rw [← ez2]
  refine kL (rV (rest := []) C (c_X11_lift l D g a hJa Mc z1 z2 r Mc' e1) ok_X11_lift wd_334 hP 0 (aC_0 g a Mc) rfl ⟨rfl, rfl, Nat.le_of_ble_eq_true rfl, Nat.le_of_ble_eq_true rfl⟩ rfl hl.1 rfl (Nat.le_of_ble_eq_true rfl) dL_law_316 ⟨Nat.le_of_ble_eq_true rfl, Nat.le_of_ble_eq_true rfl⟩) hS (aIn ha) hQ (dCM hdis) (fun H locs hP hQ hS => ?_)
  refine lv_aload_n hx hb dL_law_319 rfl (lv_at hl 2 rfl) ?_
  refine lv_aload_n hx hb dL_law_320 rfl (lv_at hl 0 rfl) ?_
  refine lv_iload_n hx hb dL_law_321 rfl (lv_at hl 3 rfl) ?_
  refine lv_iconst (v := 1) hx hb dL_law_322 (by decide) ?_
  refine lv_iadd hx hb dL_law_323 ?_
  refine va_sld hx hb hX hbl hbA hS (xin (k := 1) hi (by decide) hL) dL_law_324 ?_
  rw [← ez1]
  refine lv_aload_n hx hb dL_law_325 rfl (lv_at hl 0 rfl) ?_
  refine lv_iload_n hx hb dL_law_326 rfl (lv_at hl 3 rfl) ?_
  refine lv_iconst (v := 2) hx hb dL_law_327 (by decide) ?_
  refine lv_iadd hx hb dL_law_328 ?_
  refine va_sld hx hb hX hbl hbA hS (xin (k := 2) hi (by decide) hL) dL_law_329 ?_
  rw [← ez2]
  refine kL (rV (rest := [.int r]) C (c_X12_lift l D g b hJb Mm z1 z2 r Mm' e2) ok_X12_lift wd_861 hQ 0 (aM_0 g b Mm) rfl ⟨rfl, rfl, Nat.le_of_ble_eq_true rfl, Nat.le_of_ble_eq_true rfl⟩ rfl hl.1 rfl (Nat.le_of_ble_eq_true rfl) dL_law_330 ⟨Nat.le_of_ble_eq_true rfl, Nat.le_of_ble_eq_true rfl⟩) hS (aIn hb0) hP (dMC hdis) (fun H locs hQ hP hS => ?_)
  refine lv_icmp_eq (tgt := 1333) hx hb dL_law_333 (by decide) (fun _ => ?_) (fun q => absurd rfl q)
  refine lv_iinc (v := nI (i + 6)) (lv' := [(3, .int (nI (i + 6))), (0, .ref b0), (1, .ref (a 0)), (2, .ref (b 0))]) hx hb dL_law_1333 hl (k := 3) rfl (by rw [← nI_add]; rfl) (by decide) rfl (fun ls hl => ?_)
  refine lv_goto (tgt := 18) hx hb dL_law_1336 (by decide) ?_
  exact ih Mc' Mm' H locs ls hM hP hQ hS (lv_sub hl [1, 2, 3, 0] rfl)
set_option maxHeartbeats 4000000 in
set_option maxRecDepth 100000 in
theorem law_4 {p : Program} {l : Launch} {e : Env} {s : State} {m : MethodId} {below : List Frame} {meth : Method} {c : Code} {b0 L : Nat} {xs : Nat → Int32} {D : va_G} {g : Nat → ClassId} {a b : Nat → Nat} (K : LwC p s m meth c b0 L xs D g a b) {i : Nat} (hi : i + 6 ≤ L) (ih : LwS p l e s m below meth c b0 D g a b (i + 6)) (Mc Mm : Mem) (H : Heap) (locs : List Loc) (ls : Array Slot) (hM : Sim Mc Mm) (hP : va_P D clL (wC g a Mc) H) (hQ : va_P D clL (wM g b Mm) H) (hS : va_S (aLw s) s.heap H locs) (hl : lv_has ls 4 [(0, .ref b0), (1, .ref (a 0)), (2, .ref (b 0)), (3, .int (nI i))]) : W p l e room_1 s m #[Value.ref b0] below meth c H locs 59 1562 (lw_Z below #[Value.ref b0] s) (F0 m 338 ls []) := by
  obtain ⟨C, hX, hbl, hJa, hJb, hdis, ha, hb0, hL⟩ := K
  obtain ⟨hx, hb, hr, hml, hown, ht, hlocks, hK, hN⟩ := id C
  have hbA : ¬ aLw s b0 := Nat.not_le.mpr hbl
  obtain ⟨z1, ez1⟩ : ∃ y, y = (xs (nI i + 1).toNatClampNeg) := ⟨_, rfl⟩
  obtain ⟨z2, ez2⟩ : ∃ y, y = (xs (nI i + 2).toNatClampNeg) := ⟨_, rfl⟩
  obtain ⟨r, e1, e2⟩ := sim_height hM z1 z2
  refine lv_aload_n hx hb dL_law_338 rfl (lv_at hl 1 rfl) ?_
  refine lv_aload_n hx hb dL_law_339 rfl (lv_at hl 0 rfl) ?_
  refine lv_iload_n hx hb dL_law_340 rfl (lv_at hl 3 rfl) ?_
  refine lv_iconst (v := 1) hx hb dL_law_341 (by decide) ?_
  refine lv_iadd hx hb dL_law_342 ?_
  refine va_sld hx hb hX hbl hbA hS (xin (k := 1) hi (by decide) hL) dL_law_343 ?_
  rw [← ez1]
  refine lv_aload_n hx hb dL_law_344 rfl (lv_at hl 0 rfl) ?_
  refine lv_iload_n hx hb dL_law_345 rfl (lv_at hl 3 rfl) ?_
  refine lv_iconst (v := 2) hx hb dL_law_346 (by decide) ?_
  refine lv_iadd hx hb dL_law_347 ?_
  refine va_sld hx hb hX hbl hbA hS (xin (k := 2) hi (by decide) hL) dL_law_348 ?_
  rw [← ez2]
  refine kR (rV (rest := []) C (c_X11_height l D g a Mc z1 z2 r e1) ok_X11_height wd_338 hP 0 (aC_0 g a Mc) rfl ⟨rfl, rfl, Nat.le_of_ble_eq_true rfl, Nat.le_of_ble_eq_true rfl⟩ rfl hl.1 rfl (Nat.le_of_ble_eq_true rfl) dL_law_349 ⟨Nat.le_of_ble_eq_true rfl, Nat.le_of_ble_eq_true rfl⟩) ?_
  refine lv_aload_n hx hb dL_law_352 rfl (lv_at hl 2 rfl) ?_
  refine lv_aload_n hx hb dL_law_353 rfl (lv_at hl 0 rfl) ?_
  refine lv_iload_n hx hb dL_law_354 rfl (lv_at hl 3 rfl) ?_
  refine lv_iconst (v := 1) hx hb dL_law_355 (by decide) ?_
  refine lv_iadd hx hb dL_law_356 ?_
  refine va_sld hx hb hX hbl hbA hS (xin (k := 1) hi (by decide) hL) dL_law_357 ?_
  rw [← ez1]
  refine lv_aload_n hx hb dL_law_358 rfl (lv_at hl 0 rfl) ?_
  refine lv_iload_n hx hb dL_law_359 rfl (lv_at hl 3 rfl) ?_
  refine lv_iconst (v := 2) hx hb dL_law_360 (by decide) ?_
  refine lv_iadd hx hb dL_law_361 ?_
  refine va_sld hx hb hX hbl hbA hS (xin (k := 2) hi (by decide) hL) dL_law_362 ?_
  rw [← ez2]
  refine kR (rV (rest := [.int r]) C (c_X12_height l D g b Mm z1 z2 r e2) ok_X12_height wd_865 hQ 0 (aM_0 g b Mm) rfl ⟨rfl, rfl, Nat.le_of_ble_eq_true rfl, Nat.le_of_ble_eq_true rfl⟩ rfl hl.1 rfl (Nat.le_of_ble_eq_true rfl) dL_law_363 ⟨Nat.le_of_ble_eq_true rfl, Nat.le_of_ble_eq_true rfl⟩) ?_
  refine lv_icmp_eq (tgt := 1333) hx hb dL_law_366 (by decide) (fun _ => ?_) (fun q => absurd rfl q)
  refine lv_iinc (v := nI (i + 6)) (lv' := [(3, .int (nI (i + 6))), (0, .ref b0), (1, .ref (a 0)), (2, .ref (b 0))]) hx hb dL_law_1333 hl (k := 3) rfl (by rw [← nI_add]; rfl) (by decide) rfl (fun ls hl => ?_)
  refine lv_goto (tgt := 18) hx hb dL_law_1336 (by decide) ?_
  exact ih Mc Mm H locs ls hM hP hQ hS (lv_sub hl [1, 2, 3, 0] rfl)
set_option maxHeartbeats 4000000 in
set_option maxRecDepth 100000 in
theorem law_5 {p : Program} {l : Launch} {e : Env} {s : State} {m : MethodId} {below : List Frame} {meth : Method} {c : Code} {b0 L : Nat} {xs : Nat → Int32} {D : va_G} {g : Nat → ClassId} {a b : Nat → Nat} (K : LwC p s m meth c b0 L xs D g a b) {i : Nat} (hi : i + 6 ≤ L) (ih : LwS p l e s m below meth c b0 D g a b (i + 6)) (Mc Mm : Mem) (H : Heap) (locs : List Loc) (ls : Array Slot) (hM : Sim Mc Mm) (hP : va_P D clL (wC g a Mc) H) (hQ : va_P D clL (wM g b Mm) H) (hS : va_S (aLw s) s.heap H locs) (hl : lv_has ls 4 [(0, .ref b0), (1, .ref (a 0)), (2, .ref (b 0)), (3, .int (nI i))]) : W p l e room_1 s m #[Value.ref b0] below meth c H locs 59 1562 (lw_Z below #[Value.ref b0] s) (F0 m 371 ls []) := by
  obtain ⟨C, hX, hbl, hJa, hJb, hdis, ha, hb0, hL⟩ := K
  obtain ⟨hx, hb, hr, hml, hown, ht, hlocks, hK, hN⟩ := id C
  have hbA : ¬ aLw s b0 := Nat.not_le.mpr hbl
  obtain ⟨z1, ez1⟩ : ∃ y, y = (xs (nI i + 1).toNatClampNeg) := ⟨_, rfl⟩
  obtain ⟨z2, ez2⟩ : ∃ y, y = (xs (nI i + 2).toNatClampNeg) := ⟨_, rfl⟩
  obtain ⟨r, e1, e2⟩ := sim_rises hM z1 z2
  refine lv_aload_n hx hb dL_law_371 rfl (lv_at hl 1 rfl) ?_
  refine lv_aload_n hx hb dL_law_372 rfl (lv_at hl 0 rfl) ?_
  refine lv_iload_n hx hb dL_law_373 rfl (lv_at hl 3 rfl) ?_
  refine lv_iconst (v := 1) hx hb dL_law_374 (by decide) ?_
  refine lv_iadd hx hb dL_law_375 ?_
  refine va_sld hx hb hX hbl hbA hS (xin (k := 1) hi (by decide) hL) dL_law_376 ?_
  rw [← ez1]
  refine lv_aload_n hx hb dL_law_377 rfl (lv_at hl 0 rfl) ?_
  refine lv_iload_n hx hb dL_law_378 rfl (lv_at hl 3 rfl) ?_
  refine lv_iconst (v := 2) hx hb dL_law_379 (by decide) ?_
  refine lv_iadd hx hb dL_law_380 ?_
  refine va_sld hx hb hX hbl hbA hS (xin (k := 2) hi (by decide) hL) dL_law_381 ?_
  rw [← ez2]
  refine kR (rV (rest := []) C (c_X11_rises l D g a NN Mc z1 z2 r e1) ok_X11_rises wd_362 hP 0 (aC_0 g a Mc) rfl ⟨rfl, rfl, Nat.le_of_ble_eq_true rfl, Nat.le_of_ble_eq_true rfl⟩ rfl hl.1 rfl (Nat.le_of_ble_eq_true rfl) dL_law_382 ⟨Nat.le_of_ble_eq_true rfl, Nat.le_of_ble_eq_true rfl⟩) ?_
  refine lv_aload_n hx hb dL_law_385 rfl (lv_at hl 2 rfl) ?_
  refine lv_aload_n hx hb dL_law_386 rfl (lv_at hl 0 rfl) ?_
  refine lv_iload_n hx hb dL_law_387 rfl (lv_at hl 3 rfl) ?_
  refine lv_iconst (v := 1) hx hb dL_law_388 (by decide) ?_
  refine lv_iadd hx hb dL_law_389 ?_
  refine va_sld hx hb hX hbl hbA hS (xin (k := 1) hi (by decide) hL) dL_law_390 ?_
  rw [← ez1]
  refine lv_aload_n hx hb dL_law_391 rfl (lv_at hl 0 rfl) ?_
  refine lv_iload_n hx hb dL_law_392 rfl (lv_at hl 3 rfl) ?_
  refine lv_iconst (v := 2) hx hb dL_law_393 (by decide) ?_
  refine lv_iadd hx hb dL_law_394 ?_
  refine va_sld hx hb hX hbl hbA hS (xin (k := 2) hi (by decide) hL) dL_law_395 ?_
  rw [← ez2]
  refine kR (rV (rest := [.int r]) C (c_X12_rises l D g b NN Mm z1 z2 r e2) ok_X12_rises wd_877 hQ 0 (aM_0 g b Mm) rfl ⟨rfl, rfl, Nat.le_of_ble_eq_true rfl, Nat.le_of_ble_eq_true rfl⟩ rfl hl.1 rfl (Nat.le_of_ble_eq_true rfl) dL_law_396 ⟨Nat.le_of_ble_eq_true rfl, Nat.le_of_ble_eq_true rfl⟩) ?_
  refine lv_icmp_eq (tgt := 1333) hx hb dL_law_399 (by decide) (fun _ => ?_) (fun q => absurd rfl q)
  refine lv_iinc (v := nI (i + 6)) (lv' := [(3, .int (nI (i + 6))), (0, .ref b0), (1, .ref (a 0)), (2, .ref (b 0))]) hx hb dL_law_1333 hl (k := 3) rfl (by rw [← nI_add]; rfl) (by decide) rfl (fun ls hl => ?_)
  refine lv_goto (tgt := 18) hx hb dL_law_1336 (by decide) ?_
  exact ih Mc Mm H locs ls hM hP hQ hS (lv_sub hl [1, 2, 3, 0] rfl)
set_option maxHeartbeats 4000000 in
set_option maxRecDepth 100000 in
theorem law_6 {p : Program} {l : Launch} {e : Env} {s : State} {m : MethodId} {below : List Frame} {meth : Method} {c : Code} {b0 L : Nat} {xs : Nat → Int32} {D : va_G} {g : Nat → ClassId} {a b : Nat → Nat} (K : LwC p s m meth c b0 L xs D g a b) {i : Nat} (hi : i + 6 ≤ L) (ih : LwS p l e s m below meth c b0 D g a b (i + 6)) (Mc Mm : Mem) (H : Heap) (locs : List Loc) (ls : Array Slot) (hM : Sim Mc Mm) (hP : va_P D clL (wC g a Mc) H) (hQ : va_P D clL (wM g b Mm) H) (hS : va_S (aLw s) s.heap H locs) (hl : lv_has ls 4 [(0, .ref b0), (1, .ref (a 0)), (2, .ref (b 0)), (3, .int (nI i))]) : W p l e room_1 s m #[Value.ref b0] below meth c H locs 59 1562 (lw_Z below #[Value.ref b0] s) (F0 m 404 ls []) := by
  obtain ⟨C, hX, hbl, hJa, hJb, hdis, ha, hb0, hL⟩ := K
  obtain ⟨hx, hb, hr, hml, hown, ht, hlocks, hK, hN⟩ := id C
  have hbA : ¬ aLw s b0 := Nat.not_le.mpr hbl
  obtain ⟨z1, ez1⟩ : ∃ y, y = (xs (nI i + 1).toNatClampNeg) := ⟨_, rfl⟩
  obtain ⟨z2, ez2⟩ : ∃ y, y = (xs (nI i + 2).toNatClampNeg) := ⟨_, rfl⟩
  obtain ⟨z3, ez3⟩ : ∃ y, y = (xs (nI i + 3).toNatClampNeg) := ⟨_, rfl⟩
  obtain ⟨z4, ez4⟩ : ∃ y, y = (xs (nI i + 4).toNatClampNeg) := ⟨_, rfl⟩
  obtain ⟨z5, ez5⟩ : ∃ y, y = (xs (nI i + 5).toNatClampNeg) := ⟨_, rfl⟩
  obtain ⟨r, Mc', Mm', e1, e2, hM⟩ := sim_way hM z1 z2 z3 z4 z5
  refine lv_aload_n hx hb dL_law_404 rfl (lv_at hl 1 rfl) ?_
  refine lv_aload_n hx hb dL_law_405 rfl (lv_at hl 0 rfl) ?_
  refine lv_iload_n hx hb dL_law_406 rfl (lv_at hl 3 rfl) ?_
  refine lv_iconst (v := 1) hx hb dL_law_407 (by decide) ?_
  refine lv_iadd hx hb dL_law_408 ?_
  refine va_sld hx hb hX hbl hbA hS (xin (k := 1) hi (by decide) hL) dL_law_409 ?_
  rw [← ez1]
  refine lv_aload_n hx hb dL_law_410 rfl (lv_at hl 0 rfl) ?_
  refine lv_iload_n hx hb dL_law_411 rfl (lv_at hl 3 rfl) ?_
  refine lv_iconst (v := 2) hx hb dL_law_412 (by decide) ?_
  refine lv_iadd hx hb dL_law_413 ?_
  refine va_sld hx hb hX hbl hbA hS (xin (k := 2) hi (by decide) hL) dL_law_414 ?_
  rw [← ez2]
  refine lv_aload_n hx hb dL_law_415 rfl (lv_at hl 0 rfl) ?_
  refine lv_iload_n hx hb dL_law_416 rfl (lv_at hl 3 rfl) ?_
  refine lv_iconst (v := 3) hx hb dL_law_417 (by decide) ?_
  refine lv_iadd hx hb dL_law_418 ?_
  refine va_sld hx hb hX hbl hbA hS (xin (k := 3) hi (by decide) hL) dL_law_419 ?_
  rw [← ez3]
  refine lv_aload_n hx hb dL_law_420 rfl (lv_at hl 0 rfl) ?_
  refine lv_iload_n hx hb dL_law_421 rfl (lv_at hl 3 rfl) ?_
  refine lv_iconst (v := 4) hx hb dL_law_422 (by decide) ?_
  refine lv_iadd hx hb dL_law_423 ?_
  refine va_sld hx hb hX hbl hbA hS (xin (k := 4) hi (by decide) hL) dL_law_424 ?_
  rw [← ez4]
  refine lv_aload_n hx hb dL_law_425 rfl (lv_at hl 0 rfl) ?_
  refine lv_iload_n hx hb dL_law_426 rfl (lv_at hl 3 rfl) ?_
  refine lv_iconst (v := 5) hx hb dL_law_427 (by decide) ?_
  refine lv_iadd hx hb dL_law_428 ?_
  refine va_sld hx hb hX hbl hbA hS (xin (k := 5) hi (by decide) hL) dL_law_429 ?_
  rw [← ez5]
  refine kL (rV (rest := []) C (c_X11_way l D g a hJa NN Mc z1 z2 z3 z4 z5 r Mc' e1) ok_X11_way wd_375 hP 0 (aC_0 g a Mc) rfl ⟨rfl, rfl, Nat.le_of_ble_eq_true rfl, Nat.le_of_ble_eq_true rfl⟩ rfl hl.1 rfl (Nat.le_of_ble_eq_true rfl) dL_law_430 ⟨Nat.le_of_ble_eq_true rfl, Nat.le_of_ble_eq_true rfl⟩) hS (aIn ha) hQ (dCM hdis) (fun H locs hP hQ hS => ?_)
  refine lv_aload_n hx hb dL_law_433 rfl (lv_at hl 2 rfl) ?_
  refine lv_aload_n hx hb dL_law_434 rfl (lv_at hl 0 rfl) ?_
  refine lv_iload_n hx hb dL_law_435 rfl (lv_at hl 3 rfl) ?_
  refine lv_iconst (v := 1) hx hb dL_law_436 (by decide) ?_
  refine lv_iadd hx hb dL_law_437 ?_
  refine va_sld hx hb hX hbl hbA hS (xin (k := 1) hi (by decide) hL) dL_law_438 ?_
  rw [← ez1]
  refine lv_aload_n hx hb dL_law_439 rfl (lv_at hl 0 rfl) ?_
  refine lv_iload_n hx hb dL_law_440 rfl (lv_at hl 3 rfl) ?_
  refine lv_iconst (v := 2) hx hb dL_law_441 (by decide) ?_
  refine lv_iadd hx hb dL_law_442 ?_
  refine va_sld hx hb hX hbl hbA hS (xin (k := 2) hi (by decide) hL) dL_law_443 ?_
  rw [← ez2]
  refine lv_aload_n hx hb dL_law_444 rfl (lv_at hl 0 rfl) ?_
  refine lv_iload_n hx hb dL_law_445 rfl (lv_at hl 3 rfl) ?_
  refine lv_iconst (v := 3) hx hb dL_law_446 (by decide) ?_
  refine lv_iadd hx hb dL_law_447 ?_
  refine va_sld hx hb hX hbl hbA hS (xin (k := 3) hi (by decide) hL) dL_law_448 ?_
  rw [← ez3]
  refine lv_aload_n hx hb dL_law_449 rfl (lv_at hl 0 rfl) ?_
  refine lv_iload_n hx hb dL_law_450 rfl (lv_at hl 3 rfl) ?_
  refine lv_iconst (v := 4) hx hb dL_law_451 (by decide) ?_
  refine lv_iadd hx hb dL_law_452 ?_
  refine va_sld hx hb hX hbl hbA hS (xin (k := 4) hi (by decide) hL) dL_law_453 ?_
  rw [← ez4]
  refine lv_aload_n hx hb dL_law_454 rfl (lv_at hl 0 rfl) ?_
  refine lv_iload_n hx hb dL_law_455 rfl (lv_at hl 3 rfl) ?_
  refine lv_iconst (v := 5) hx hb dL_law_456 (by decide) ?_
  refine lv_iadd hx hb dL_law_457 ?_
  refine va_sld hx hb hX hbl hbA hS (xin (k := 5) hi (by decide) hL) dL_law_458 ?_
  rw [← ez5]
  refine kL (rV (rest := [.int r]) C (c_X12_way l D g b hJb NN Mm z1 z2 z3 z4 z5 r Mm' e2) ok_X12_way wd_881 hQ 0 (aM_0 g b Mm) rfl ⟨rfl, rfl, Nat.le_of_ble_eq_true rfl, Nat.le_of_ble_eq_true rfl⟩ rfl hl.1 rfl (Nat.le_of_ble_eq_true rfl) dL_law_459 ⟨Nat.le_of_ble_eq_true rfl, Nat.le_of_ble_eq_true rfl⟩) hS (aIn hb0) hP (dMC hdis) (fun H locs hQ hP hS => ?_)
  refine lv_icmp_eq (tgt := 1333) hx hb dL_law_462 (by decide) (fun _ => ?_) (fun q => absurd rfl q)
  refine lv_iinc (v := nI (i + 6)) (lv' := [(3, .int (nI (i + 6))), (0, .ref b0), (1, .ref (a 0)), (2, .ref (b 0))]) hx hb dL_law_1333 hl (k := 3) rfl (by rw [← nI_add]; rfl) (by decide) rfl (fun ls hl => ?_)
  refine lv_goto (tgt := 18) hx hb dL_law_1336 (by decide) ?_
  exact ih Mc' Mm' H locs ls hM hP hQ hS (lv_sub hl [1, 2, 3, 0] rfl)
set_option maxHeartbeats 4000000 in
set_option maxRecDepth 100000 in
theorem law_7 {p : Program} {l : Launch} {e : Env} {s : State} {m : MethodId} {below : List Frame} {meth : Method} {c : Code} {b0 L : Nat} {xs : Nat → Int32} {D : va_G} {g : Nat → ClassId} {a b : Nat → Nat} (K : LwC p s m meth c b0 L xs D g a b) {i : Nat} (hi : i + 6 ≤ L) (ih : LwS p l e s m below meth c b0 D g a b (i + 6)) (Mc Mm : Mem) (H : Heap) (locs : List Loc) (ls : Array Slot) (hM : Sim Mc Mm) (hP : va_P D clL (wC g a Mc) H) (hQ : va_P D clL (wM g b Mm) H) (hS : va_S (aLw s) s.heap H locs) (hl : lv_has ls 4 [(0, .ref b0), (1, .ref (a 0)), (2, .ref (b 0)), (3, .int (nI i))]) : W p l e room_1 s m #[Value.ref b0] below meth c H locs 59 1562 (lw_Z below #[Value.ref b0] s) (F0 m 467 ls []) := by
  obtain ⟨C, hX, hbl, hJa, hJb, hdis, ha, hb0, hL⟩ := K
  obtain ⟨hx, hb, hr, hml, hown, ht, hlocks, hK, hN⟩ := id C
  have hbA : ¬ aLw s b0 := Nat.not_le.mpr hbl
  obtain ⟨z1, ez1⟩ : ∃ y, y = (xs (nI i + 1).toNatClampNeg) := ⟨_, rfl⟩
  obtain ⟨z2, ez2⟩ : ∃ y, y = (xs (nI i + 2).toNatClampNeg) := ⟨_, rfl⟩
  obtain ⟨z3, ez3⟩ : ∃ y, y = (xs (nI i + 3).toNatClampNeg) := ⟨_, rfl⟩
  obtain ⟨z4, ez4⟩ : ∃ y, y = (xs (nI i + 4).toNatClampNeg) := ⟨_, rfl⟩
  obtain ⟨z5, ez5⟩ : ∃ y, y = (xs (nI i + 5).toNatClampNeg) := ⟨_, rfl⟩
  obtain ⟨r, Mc', Mm', e1, e2, hM⟩ := sim_holds hM z1 z2 z3 z4 z5
  refine lv_aload_n hx hb dL_law_467 rfl (lv_at hl 1 rfl) ?_
  refine lv_aload_n hx hb dL_law_468 rfl (lv_at hl 0 rfl) ?_
  refine lv_iload_n hx hb dL_law_469 rfl (lv_at hl 3 rfl) ?_
  refine lv_iconst (v := 1) hx hb dL_law_470 (by decide) ?_
  refine lv_iadd hx hb dL_law_471 ?_
  refine va_sld hx hb hX hbl hbA hS (xin (k := 1) hi (by decide) hL) dL_law_472 ?_
  rw [← ez1]
  refine lv_aload_n hx hb dL_law_473 rfl (lv_at hl 0 rfl) ?_
  refine lv_iload_n hx hb dL_law_474 rfl (lv_at hl 3 rfl) ?_
  refine lv_iconst (v := 2) hx hb dL_law_475 (by decide) ?_
  refine lv_iadd hx hb dL_law_476 ?_
  refine va_sld hx hb hX hbl hbA hS (xin (k := 2) hi (by decide) hL) dL_law_477 ?_
  rw [← ez2]
  refine lv_aload_n hx hb dL_law_478 rfl (lv_at hl 0 rfl) ?_
  refine lv_iload_n hx hb dL_law_479 rfl (lv_at hl 3 rfl) ?_
  refine lv_iconst (v := 3) hx hb dL_law_480 (by decide) ?_
  refine lv_iadd hx hb dL_law_481 ?_
  refine va_sld hx hb hX hbl hbA hS (xin (k := 3) hi (by decide) hL) dL_law_482 ?_
  rw [← ez3]
  refine lv_aload_n hx hb dL_law_483 rfl (lv_at hl 0 rfl) ?_
  refine lv_iload_n hx hb dL_law_484 rfl (lv_at hl 3 rfl) ?_
  refine lv_iconst (v := 4) hx hb dL_law_485 (by decide) ?_
  refine lv_iadd hx hb dL_law_486 ?_
  refine va_sld hx hb hX hbl hbA hS (xin (k := 4) hi (by decide) hL) dL_law_487 ?_
  rw [← ez4]
  refine lv_aload_n hx hb dL_law_488 rfl (lv_at hl 0 rfl) ?_
  refine lv_iload_n hx hb dL_law_489 rfl (lv_at hl 3 rfl) ?_
  refine lv_iconst (v := 5) hx hb dL_law_490 (by decide) ?_
  refine lv_iadd hx hb dL_law_491 ?_
  refine va_sld hx hb hX hbl hbA hS (xin (k := 5) hi (by decide) hL) dL_law_492 ?_
  rw [← ez5]
  refine kL (rV (rest := []) C (c_X11_holds l D g a hJa NN Mc z1 z2 z3 z4 z5 r Mc' e1) ok_X11_holds wd_422 hP 0 (aC_0 g a Mc) rfl ⟨rfl, rfl, Nat.le_of_ble_eq_true rfl, Nat.le_of_ble_eq_true rfl⟩ rfl hl.1 rfl (Nat.le_of_ble_eq_true rfl) dL_law_493 ⟨Nat.le_of_ble_eq_true rfl, Nat.le_of_ble_eq_true rfl⟩) hS (aIn ha) hQ (dCM hdis) (fun H locs hP hQ hS => ?_)
  refine lv_aload_n hx hb dL_law_496 rfl (lv_at hl 2 rfl) ?_
  refine lv_aload_n hx hb dL_law_497 rfl (lv_at hl 0 rfl) ?_
  refine lv_iload_n hx hb dL_law_498 rfl (lv_at hl 3 rfl) ?_
  refine lv_iconst (v := 1) hx hb dL_law_499 (by decide) ?_
  refine lv_iadd hx hb dL_law_500 ?_
  refine va_sld hx hb hX hbl hbA hS (xin (k := 1) hi (by decide) hL) dL_law_501 ?_
  rw [← ez1]
  refine lv_aload_n hx hb dL_law_502 rfl (lv_at hl 0 rfl) ?_
  refine lv_iload_n hx hb dL_law_503 rfl (lv_at hl 3 rfl) ?_
  refine lv_iconst (v := 2) hx hb dL_law_504 (by decide) ?_
  refine lv_iadd hx hb dL_law_505 ?_
  refine va_sld hx hb hX hbl hbA hS (xin (k := 2) hi (by decide) hL) dL_law_506 ?_
  rw [← ez2]
  refine lv_aload_n hx hb dL_law_507 rfl (lv_at hl 0 rfl) ?_
  refine lv_iload_n hx hb dL_law_508 rfl (lv_at hl 3 rfl) ?_
  refine lv_iconst (v := 3) hx hb dL_law_509 (by decide) ?_
  refine lv_iadd hx hb dL_law_510 ?_
  refine va_sld hx hb hX hbl hbA hS (xin (k := 3) hi (by decide) hL) dL_law_511 ?_
  rw [← ez3]
  refine lv_aload_n hx hb dL_law_512 rfl (lv_at hl 0 rfl) ?_
  refine lv_iload_n hx hb dL_law_513 rfl (lv_at hl 3 rfl) ?_
  refine lv_iconst (v := 4) hx hb dL_law_514 (by decide) ?_
  refine lv_iadd hx hb dL_law_515 ?_
  refine va_sld hx hb hX hbl hbA hS (xin (k := 4) hi (by decide) hL) dL_law_516 ?_
  rw [← ez4]
  refine lv_aload_n hx hb dL_law_517 rfl (lv_at hl 0 rfl) ?_
  refine lv_iload_n hx hb dL_law_518 rfl (lv_at hl 3 rfl) ?_
  refine lv_iconst (v := 5) hx hb dL_law_519 (by decide) ?_
  refine lv_iadd hx hb dL_law_520 ?_
  refine va_sld hx hb hX hbl hbA hS (xin (k := 5) hi (by decide) hL) dL_law_521 ?_
  rw [← ez5]
  refine kL (rV (rest := [.int r]) C (c_X12_holds l D g b hJb NN Mm z1 z2 z3 z4 z5 r Mm' e2) ok_X12_holds wd_901 hQ 0 (aM_0 g b Mm) rfl ⟨rfl, rfl, Nat.le_of_ble_eq_true rfl, Nat.le_of_ble_eq_true rfl⟩ rfl hl.1 rfl (Nat.le_of_ble_eq_true rfl) dL_law_522 ⟨Nat.le_of_ble_eq_true rfl, Nat.le_of_ble_eq_true rfl⟩) hS (aIn hb0) hP (dMC hdis) (fun H locs hQ hP hS => ?_)
  refine lv_icmp_eq (tgt := 1333) hx hb dL_law_525 (by decide) (fun _ => ?_) (fun q => absurd rfl q)
  refine lv_iinc (v := nI (i + 6)) (lv' := [(3, .int (nI (i + 6))), (0, .ref b0), (1, .ref (a 0)), (2, .ref (b 0))]) hx hb dL_law_1333 hl (k := 3) rfl (by rw [← nI_add]; rfl) (by decide) rfl (fun ls hl => ?_)
  refine lv_goto (tgt := 18) hx hb dL_law_1336 (by decide) ?_
  exact ih Mc' Mm' H locs ls hM hP hQ hS (lv_sub hl [1, 2, 3, 0] rfl)
set_option maxHeartbeats 4000000 in
set_option maxRecDepth 100000 in
theorem law_8 {p : Program} {l : Launch} {e : Env} {s : State} {m : MethodId} {below : List Frame} {meth : Method} {c : Code} {b0 L : Nat} {xs : Nat → Int32} {D : va_G} {g : Nat → ClassId} {a b : Nat → Nat} (K : LwC p s m meth c b0 L xs D g a b) {i : Nat} (hi : i + 6 ≤ L) (ih : LwS p l e s m below meth c b0 D g a b (i + 6)) (Mc Mm : Mem) (H : Heap) (locs : List Loc) (ls : Array Slot) (hM : Sim Mc Mm) (hP : va_P D clL (wC g a Mc) H) (hQ : va_P D clL (wM g b Mm) H) (hS : va_S (aLw s) s.heap H locs) (hl : lv_has ls 4 [(0, .ref b0), (1, .ref (a 0)), (2, .ref (b 0)), (3, .int (nI i))]) : W p l e room_1 s m #[Value.ref b0] below meth c H locs 59 1562 (lw_Z below #[Value.ref b0] s) (F0 m 530 ls []) := by
  obtain ⟨C, hX, hbl, hJa, hJb, hdis, ha, hb0, hL⟩ := K
  obtain ⟨hx, hb, hr, hml, hown, ht, hlocks, hK, hN⟩ := id C
  have hbA : ¬ aLw s b0 := Nat.not_le.mpr hbl
  obtain ⟨z1, ez1⟩ : ∃ y, y = (xs (nI i + 1).toNatClampNeg) := ⟨_, rfl⟩
  obtain ⟨z2, ez2⟩ : ∃ y, y = (xs (nI i + 2).toNatClampNeg) := ⟨_, rfl⟩
  obtain ⟨z3, ez3⟩ : ∃ y, y = (xs (nI i + 3).toNatClampNeg) := ⟨_, rfl⟩
  obtain ⟨r, Mc', Mm', e1, e2, hM⟩ := sim_leastStep hM z1 z2 z3
  refine lv_aload_n hx hb dL_law_530 rfl (lv_at hl 1 rfl) ?_
  refine lv_aload_n hx hb dL_law_531 rfl (lv_at hl 0 rfl) ?_
  refine lv_iload_n hx hb dL_law_532 rfl (lv_at hl 3 rfl) ?_
  refine lv_iconst (v := 1) hx hb dL_law_533 (by decide) ?_
  refine lv_iadd hx hb dL_law_534 ?_
  refine va_sld hx hb hX hbl hbA hS (xin (k := 1) hi (by decide) hL) dL_law_535 ?_
  rw [← ez1]
  refine lv_aload_n hx hb dL_law_536 rfl (lv_at hl 0 rfl) ?_
  refine lv_iload_n hx hb dL_law_537 rfl (lv_at hl 3 rfl) ?_
  refine lv_iconst (v := 2) hx hb dL_law_538 (by decide) ?_
  refine lv_iadd hx hb dL_law_539 ?_
  refine va_sld hx hb hX hbl hbA hS (xin (k := 2) hi (by decide) hL) dL_law_540 ?_
  rw [← ez2]
  refine lv_aload_n hx hb dL_law_541 rfl (lv_at hl 0 rfl) ?_
  refine lv_iload_n hx hb dL_law_542 rfl (lv_at hl 3 rfl) ?_
  refine lv_iconst (v := 3) hx hb dL_law_543 (by decide) ?_
  refine lv_iadd hx hb dL_law_544 ?_
  refine va_sld hx hb hX hbl hbA hS (xin (k := 3) hi (by decide) hL) dL_law_545 ?_
  rw [← ez3]
  refine kL (rV (rest := []) C (c_X11_leastStep l D g a hJa NN Mc z1 z2 z3 r Mc' e1) ok_X11_leastStep wd_426 hP 0 (aC_0 g a Mc) rfl ⟨rfl, rfl, Nat.le_of_ble_eq_true rfl, Nat.le_of_ble_eq_true rfl⟩ rfl hl.1 rfl (Nat.le_of_ble_eq_true rfl) dL_law_546 ⟨Nat.le_of_ble_eq_true rfl, Nat.le_of_ble_eq_true rfl⟩) hS (aIn ha) hQ (dCM hdis) (fun H locs hP hQ hS => ?_)
  refine lv_aload_n hx hb dL_law_549 rfl (lv_at hl 2 rfl) ?_
  refine lv_aload_n hx hb dL_law_550 rfl (lv_at hl 0 rfl) ?_
  refine lv_iload_n hx hb dL_law_551 rfl (lv_at hl 3 rfl) ?_
  refine lv_iconst (v := 1) hx hb dL_law_552 (by decide) ?_
  refine lv_iadd hx hb dL_law_553 ?_
  refine va_sld hx hb hX hbl hbA hS (xin (k := 1) hi (by decide) hL) dL_law_554 ?_
  rw [← ez1]
  refine lv_aload_n hx hb dL_law_555 rfl (lv_at hl 0 rfl) ?_
  refine lv_iload_n hx hb dL_law_556 rfl (lv_at hl 3 rfl) ?_
  refine lv_iconst (v := 2) hx hb dL_law_557 (by decide) ?_
  refine lv_iadd hx hb dL_law_558 ?_
  refine va_sld hx hb hX hbl hbA hS (xin (k := 2) hi (by decide) hL) dL_law_559 ?_
  rw [← ez2]
  refine lv_aload_n hx hb dL_law_560 rfl (lv_at hl 0 rfl) ?_
  refine lv_iload_n hx hb dL_law_561 rfl (lv_at hl 3 rfl) ?_
  refine lv_iconst (v := 3) hx hb dL_law_562 (by decide) ?_
  refine lv_iadd hx hb dL_law_563 ?_
  refine va_sld hx hb hX hbl hbA hS (xin (k := 3) hi (by decide) hL) dL_law_564 ?_
  rw [← ez3]
  refine kL (rV (rest := [.int r]) C (c_X12_leastStep l D g b hJb NN Mm z1 z2 z3 r Mm' e2) ok_X12_leastStep wd_905 hQ 0 (aM_0 g b Mm) rfl ⟨rfl, rfl, Nat.le_of_ble_eq_true rfl, Nat.le_of_ble_eq_true rfl⟩ rfl hl.1 rfl (Nat.le_of_ble_eq_true rfl) dL_law_565 ⟨Nat.le_of_ble_eq_true rfl, Nat.le_of_ble_eq_true rfl⟩) hS (aIn hb0) hP (dMC hdis) (fun H locs hQ hP hS => ?_)
  refine lv_icmp_eq (tgt := 1333) hx hb dL_law_568 (by decide) (fun _ => ?_) (fun q => absurd rfl q)
  refine lv_iinc (v := nI (i + 6)) (lv' := [(3, .int (nI (i + 6))), (0, .ref b0), (1, .ref (a 0)), (2, .ref (b 0))]) hx hb dL_law_1333 hl (k := 3) rfl (by rw [← nI_add]; rfl) (by decide) rfl (fun ls hl => ?_)
  refine lv_goto (tgt := 18) hx hb dL_law_1336 (by decide) ?_
  exact ih Mc' Mm' H locs ls hM hP hQ hS (lv_sub hl [1, 2, 3, 0] rfl)
set_option maxHeartbeats 4000000 in
set_option maxRecDepth 100000 in
theorem law_9 {p : Program} {l : Launch} {e : Env} {s : State} {m : MethodId} {below : List Frame} {meth : Method} {c : Code} {b0 L : Nat} {xs : Nat → Int32} {D : va_G} {g : Nat → ClassId} {a b : Nat → Nat} (K : LwC p s m meth c b0 L xs D g a b) {i : Nat} (hi : i + 6 ≤ L) (ih : LwS p l e s m below meth c b0 D g a b (i + 6)) (Mc Mm : Mem) (H : Heap) (locs : List Loc) (ls : Array Slot) (hM : Sim Mc Mm) (hP : va_P D clL (wC g a Mc) H) (hQ : va_P D clL (wM g b Mm) H) (hS : va_S (aLw s) s.heap H locs) (hl : lv_has ls 4 [(0, .ref b0), (1, .ref (a 0)), (2, .ref (b 0)), (3, .int (nI i))]) : W p l e room_1 s m #[Value.ref b0] below meth c H locs 59 1562 (lw_Z below #[Value.ref b0] s) (F0 m 573 ls []) := by
  obtain ⟨C, hX, hbl, hJa, hJb, hdis, ha, hb0, hL⟩ := K
  obtain ⟨hx, hb, hr, hml, hown, ht, hlocks, hK, hN⟩ := id C
  have hbA : ¬ aLw s b0 := Nat.not_le.mpr hbl
  obtain ⟨z1, ez1⟩ : ∃ y, y = (xs (nI i + 1).toNatClampNeg) := ⟨_, rfl⟩
  obtain ⟨z2, ez2⟩ : ∃ y, y = (xs (nI i + 2).toNatClampNeg) := ⟨_, rfl⟩
  obtain ⟨r, Mc', e1, e2, hM⟩ := sim_wedges hM z1 z2
  refine lv_aload_n hx hb dL_law_573 rfl (lv_at hl 1 rfl) ?_
  refine lv_aload_n hx hb dL_law_574 rfl (lv_at hl 0 rfl) ?_
  refine lv_iload_n hx hb dL_law_575 rfl (lv_at hl 3 rfl) ?_
  refine lv_iconst (v := 1) hx hb dL_law_576 (by decide) ?_
  refine lv_iadd hx hb dL_law_577 ?_
  refine va_sld hx hb hX hbl hbA hS (xin (k := 1) hi (by decide) hL) dL_law_578 ?_
  rw [← ez1]
  refine lv_aload_n hx hb dL_law_579 rfl (lv_at hl 0 rfl) ?_
  refine lv_iload_n hx hb dL_law_580 rfl (lv_at hl 3 rfl) ?_
  refine lv_iconst (v := 2) hx hb dL_law_581 (by decide) ?_
  refine lv_iadd hx hb dL_law_582 ?_
  refine va_sld hx hb hX hbl hbA hS (xin (k := 2) hi (by decide) hL) dL_law_583 ?_
  rw [← ez2]
  refine kL (rV (rest := []) C (c_X11_wedges l D g a hJa NN Mc z1 z2 r Mc' e1) ok_X11_wedges wd_442 hP 0 (aC_0 g a Mc) rfl ⟨rfl, rfl, Nat.le_of_ble_eq_true rfl, Nat.le_of_ble_eq_true rfl⟩ rfl hl.1 rfl (Nat.le_of_ble_eq_true rfl) dL_law_584 ⟨Nat.le_of_ble_eq_true rfl, Nat.le_of_ble_eq_true rfl⟩) hS (aIn ha) hQ (dCM hdis) (fun H locs hP hQ hS => ?_)
  refine lv_aload_n hx hb dL_law_587 rfl (lv_at hl 2 rfl) ?_
  refine lv_aload_n hx hb dL_law_588 rfl (lv_at hl 0 rfl) ?_
  refine lv_iload_n hx hb dL_law_589 rfl (lv_at hl 3 rfl) ?_
  refine lv_iconst (v := 1) hx hb dL_law_590 (by decide) ?_
  refine lv_iadd hx hb dL_law_591 ?_
  refine va_sld hx hb hX hbl hbA hS (xin (k := 1) hi (by decide) hL) dL_law_592 ?_
  rw [← ez1]
  refine lv_aload_n hx hb dL_law_593 rfl (lv_at hl 0 rfl) ?_
  refine lv_iload_n hx hb dL_law_594 rfl (lv_at hl 3 rfl) ?_
  refine lv_iconst (v := 2) hx hb dL_law_595 (by decide) ?_
  refine lv_iadd hx hb dL_law_596 ?_
  refine va_sld hx hb hX hbl hbA hS (xin (k := 2) hi (by decide) hL) dL_law_597 ?_
  rw [← ez2]
  refine kR (rV (rest := [.int r]) C (c_X12_wedges l D g b Mm z1 z2 r e2) ok_X12_wedges wd_909 hQ 0 (aM_0 g b Mm) rfl ⟨rfl, rfl, Nat.le_of_ble_eq_true rfl, Nat.le_of_ble_eq_true rfl⟩ rfl hl.1 rfl (Nat.le_of_ble_eq_true rfl) dL_law_598 ⟨Nat.le_of_ble_eq_true rfl, Nat.le_of_ble_eq_true rfl⟩) ?_
  refine lv_icmp_eq (tgt := 1333) hx hb dL_law_601 (by decide) (fun _ => ?_) (fun q => absurd rfl q)
  refine lv_iinc (v := nI (i + 6)) (lv' := [(3, .int (nI (i + 6))), (0, .ref b0), (1, .ref (a 0)), (2, .ref (b 0))]) hx hb dL_law_1333 hl (k := 3) rfl (by rw [← nI_add]; rfl) (by decide) rfl (fun ls hl => ?_)
  refine lv_goto (tgt := 18) hx hb dL_law_1336 (by decide) ?_
  exact ih Mc' Mm H locs ls hM hP hQ hS (lv_sub hl [1, 2, 3, 0] rfl)
set_option maxHeartbeats 4000000 in
set_option maxRecDepth 100000 in
theorem law_10 {p : Program} {l : Launch} {e : Env} {s : State} {m : MethodId} {below : List Frame} {meth : Method} {c : Code} {b0 L : Nat} {xs : Nat → Int32} {D : va_G} {g : Nat → ClassId} {a b : Nat → Nat} (K : LwC p s m meth c b0 L xs D g a b) {i : Nat} (hi : i + 6 ≤ L) (ih : LwS p l e s m below meth c b0 D g a b (i + 6)) (Mc Mm : Mem) (H : Heap) (locs : List Loc) (ls : Array Slot) (hM : Sim Mc Mm) (hP : va_P D clL (wC g a Mc) H) (hQ : va_P D clL (wM g b Mm) H) (hS : va_S (aLw s) s.heap H locs) (hl : lv_has ls 4 [(0, .ref b0), (1, .ref (a 0)), (2, .ref (b 0)), (3, .int (nI i))]) : W p l e room_1 s m #[Value.ref b0] below meth c H locs 59 1562 (lw_Z below #[Value.ref b0] s) (F0 m 606 ls []) := by
  obtain ⟨C, hX, hbl, hJa, hJb, hdis, ha, hb0, hL⟩ := K
  obtain ⟨hx, hb, hr, hml, hown, ht, hlocks, hK, hN⟩ := id C
  have hbA : ¬ aLw s b0 := Nat.not_le.mpr hbl
  obtain ⟨z1, ez1⟩ : ∃ y, y = (xs (nI i + 1).toNatClampNeg) := ⟨_, rfl⟩
  obtain ⟨z2, ez2⟩ : ∃ y, y = (xs (nI i + 2).toNatClampNeg) := ⟨_, rfl⟩
  obtain ⟨r, Mc', e1, e2, hM⟩ := sim_best hM z1 z2
  refine lv_aload_n hx hb dL_law_606 rfl (lv_at hl 1 rfl) ?_
  refine lv_aload_n hx hb dL_law_607 rfl (lv_at hl 0 rfl) ?_
  refine lv_iload_n hx hb dL_law_608 rfl (lv_at hl 3 rfl) ?_
  refine lv_iconst (v := 1) hx hb dL_law_609 (by decide) ?_
  refine lv_iadd hx hb dL_law_610 ?_
  refine va_sld hx hb hX hbl hbA hS (xin (k := 1) hi (by decide) hL) dL_law_611 ?_
  rw [← ez1]
  refine lv_aload_n hx hb dL_law_612 rfl (lv_at hl 0 rfl) ?_
  refine lv_iload_n hx hb dL_law_613 rfl (lv_at hl 3 rfl) ?_
  refine lv_iconst (v := 2) hx hb dL_law_614 (by decide) ?_
  refine lv_iadd hx hb dL_law_615 ?_
  refine va_sld hx hb hX hbl hbA hS (xin (k := 2) hi (by decide) hL) dL_law_616 ?_
  rw [← ez2]
  refine kL (rV (rest := []) C (c_X11_best l D g a hJa NN Mc z1 z2 r Mc' e1) ok_X11_best wd_461 hP 0 (aC_0 g a Mc) rfl ⟨rfl, rfl, Nat.le_of_ble_eq_true rfl, Nat.le_of_ble_eq_true rfl⟩ rfl hl.1 rfl (Nat.le_of_ble_eq_true rfl) dL_law_617 ⟨Nat.le_of_ble_eq_true rfl, Nat.le_of_ble_eq_true rfl⟩) hS (aIn ha) hQ (dCM hdis) (fun H locs hP hQ hS => ?_)
  refine lv_aload_n hx hb dL_law_620 rfl (lv_at hl 2 rfl) ?_
  refine lv_aload_n hx hb dL_law_621 rfl (lv_at hl 0 rfl) ?_
  refine lv_iload_n hx hb dL_law_622 rfl (lv_at hl 3 rfl) ?_
  refine lv_iconst (v := 1) hx hb dL_law_623 (by decide) ?_
  refine lv_iadd hx hb dL_law_624 ?_
  refine va_sld hx hb hX hbl hbA hS (xin (k := 1) hi (by decide) hL) dL_law_625 ?_
  rw [← ez1]
  refine lv_aload_n hx hb dL_law_626 rfl (lv_at hl 0 rfl) ?_
  refine lv_iload_n hx hb dL_law_627 rfl (lv_at hl 3 rfl) ?_
  refine lv_iconst (v := 2) hx hb dL_law_628 (by decide) ?_
  refine lv_iadd hx hb dL_law_629 ?_
  refine va_sld hx hb hX hbl hbA hS (xin (k := 2) hi (by decide) hL) dL_law_630 ?_
  rw [← ez2]
  refine kR (rV (rest := [.int r]) C (c_X12_best l D g b NN Mm z1 z2 r e2) ok_X12_best wd_921 hQ 0 (aM_0 g b Mm) rfl ⟨rfl, rfl, Nat.le_of_ble_eq_true rfl, Nat.le_of_ble_eq_true rfl⟩ rfl hl.1 rfl (Nat.le_of_ble_eq_true rfl) dL_law_631 ⟨Nat.le_of_ble_eq_true rfl, Nat.le_of_ble_eq_true rfl⟩) ?_
  refine lv_icmp_eq (tgt := 1333) hx hb dL_law_634 (by decide) (fun _ => ?_) (fun q => absurd rfl q)
  refine lv_iinc (v := nI (i + 6)) (lv' := [(3, .int (nI (i + 6))), (0, .ref b0), (1, .ref (a 0)), (2, .ref (b 0))]) hx hb dL_law_1333 hl (k := 3) rfl (by rw [← nI_add]; rfl) (by decide) rfl (fun ls hl => ?_)
  refine lv_goto (tgt := 18) hx hb dL_law_1336 (by decide) ?_
  exact ih Mc' Mm H locs ls hM hP hQ hS (lv_sub hl [1, 2, 3, 0] rfl)
set_option maxHeartbeats 4000000 in
set_option maxRecDepth 100000 in
theorem law_11 {p : Program} {l : Launch} {e : Env} {s : State} {m : MethodId} {below : List Frame} {meth : Method} {c : Code} {b0 L : Nat} {xs : Nat → Int32} {D : va_G} {g : Nat → ClassId} {a b : Nat → Nat} (K : LwC p s m meth c b0 L xs D g a b) {i : Nat} (hi : i + 6 ≤ L) (ih : LwS p l e s m below meth c b0 D g a b (i + 6)) (Mc Mm : Mem) (H : Heap) (locs : List Loc) (ls : Array Slot) (hM : Sim Mc Mm) (hP : va_P D clL (wC g a Mc) H) (hQ : va_P D clL (wM g b Mm) H) (hS : va_S (aLw s) s.heap H locs) (hl : lv_has ls 4 [(0, .ref b0), (1, .ref (a 0)), (2, .ref (b 0)), (3, .int (nI i))]) : W p l e room_1 s m #[Value.ref b0] below meth c H locs 59 1562 (lw_Z below #[Value.ref b0] s) (F0 m 639 ls []) := by
  obtain ⟨C, hX, hbl, hJa, hJb, hdis, ha, hb0, hL⟩ := K
  obtain ⟨hx, hb, hr, hml, hown, ht, hlocks, hK, hN⟩ := id C
  have hbA : ¬ aLw s b0 := Nat.not_le.mpr hbl
  obtain ⟨z1, ez1⟩ : ∃ y, y = (xs (nI i + 1).toNatClampNeg) := ⟨_, rfl⟩
  obtain ⟨z2, ez2⟩ : ∃ y, y = (xs (nI i + 2).toNatClampNeg) := ⟨_, rfl⟩
  obtain ⟨r, Mc', e1, e2, hM⟩ := sim_two hM z1 z2
  refine lv_aload_n hx hb dL_law_639 rfl (lv_at hl 1 rfl) ?_
  refine lv_aload_n hx hb dL_law_640 rfl (lv_at hl 0 rfl) ?_
  refine lv_iload_n hx hb dL_law_641 rfl (lv_at hl 3 rfl) ?_
  refine lv_iconst (v := 1) hx hb dL_law_642 (by decide) ?_
  refine lv_iadd hx hb dL_law_643 ?_
  refine va_sld hx hb hX hbl hbA hS (xin (k := 1) hi (by decide) hL) dL_law_644 ?_
  rw [← ez1]
  refine lv_aload_n hx hb dL_law_645 rfl (lv_at hl 0 rfl) ?_
  refine lv_iload_n hx hb dL_law_646 rfl (lv_at hl 3 rfl) ?_
  refine lv_iconst (v := 2) hx hb dL_law_647 (by decide) ?_
  refine lv_iadd hx hb dL_law_648 ?_
  refine va_sld hx hb hX hbl hbA hS (xin (k := 2) hi (by decide) hL) dL_law_649 ?_
  rw [← ez2]
  refine kL (rV (rest := []) C (c_X11_two l D g a hJa NN Mc z1 z2 r Mc' e1) ok_X11_two wd_476 hP 0 (aC_0 g a Mc) rfl ⟨rfl, rfl, Nat.le_of_ble_eq_true rfl, Nat.le_of_ble_eq_true rfl⟩ rfl hl.1 rfl (Nat.le_of_ble_eq_true rfl) dL_law_650 ⟨Nat.le_of_ble_eq_true rfl, Nat.le_of_ble_eq_true rfl⟩) hS (aIn ha) hQ (dCM hdis) (fun H locs hP hQ hS => ?_)
  refine lv_aload_n hx hb dL_law_653 rfl (lv_at hl 2 rfl) ?_
  refine lv_aload_n hx hb dL_law_654 rfl (lv_at hl 0 rfl) ?_
  refine lv_iload_n hx hb dL_law_655 rfl (lv_at hl 3 rfl) ?_
  refine lv_iconst (v := 1) hx hb dL_law_656 (by decide) ?_
  refine lv_iadd hx hb dL_law_657 ?_
  refine va_sld hx hb hX hbl hbA hS (xin (k := 1) hi (by decide) hL) dL_law_658 ?_
  rw [← ez1]
  refine lv_aload_n hx hb dL_law_659 rfl (lv_at hl 0 rfl) ?_
  refine lv_iload_n hx hb dL_law_660 rfl (lv_at hl 3 rfl) ?_
  refine lv_iconst (v := 2) hx hb dL_law_661 (by decide) ?_
  refine lv_iadd hx hb dL_law_662 ?_
  refine va_sld hx hb hX hbl hbA hS (xin (k := 2) hi (by decide) hL) dL_law_663 ?_
  rw [← ez2]
  refine kR (rV (rest := [.int r]) C (c_X12_two l D g b NN Mm z1 z2 r e2) ok_X12_two wd_925 hQ 0 (aM_0 g b Mm) rfl ⟨rfl, rfl, Nat.le_of_ble_eq_true rfl, Nat.le_of_ble_eq_true rfl⟩ rfl hl.1 rfl (Nat.le_of_ble_eq_true rfl) dL_law_664 ⟨Nat.le_of_ble_eq_true rfl, Nat.le_of_ble_eq_true rfl⟩) ?_
  refine lv_icmp_eq (tgt := 1333) hx hb dL_law_667 (by decide) (fun _ => ?_) (fun q => absurd rfl q)
  refine lv_iinc (v := nI (i + 6)) (lv' := [(3, .int (nI (i + 6))), (0, .ref b0), (1, .ref (a 0)), (2, .ref (b 0))]) hx hb dL_law_1333 hl (k := 3) rfl (by rw [← nI_add]; rfl) (by decide) rfl (fun ls hl => ?_)
  refine lv_goto (tgt := 18) hx hb dL_law_1336 (by decide) ?_
  exact ih Mc' Mm H locs ls hM hP hQ hS (lv_sub hl [1, 2, 3, 0] rfl)
set_option maxHeartbeats 4000000 in
set_option maxRecDepth 100000 in
theorem law_12 {p : Program} {l : Launch} {e : Env} {s : State} {m : MethodId} {below : List Frame} {meth : Method} {c : Code} {b0 L : Nat} {xs : Nat → Int32} {D : va_G} {g : Nat → ClassId} {a b : Nat → Nat} (K : LwC p s m meth c b0 L xs D g a b) {i : Nat} (hi : i + 6 ≤ L) (ih : LwS p l e s m below meth c b0 D g a b (i + 6)) (Mc Mm : Mem) (H : Heap) (locs : List Loc) (ls : Array Slot) (hM : Sim Mc Mm) (hP : va_P D clL (wC g a Mc) H) (hQ : va_P D clL (wM g b Mm) H) (hS : va_S (aLw s) s.heap H locs) (hl : lv_has ls 4 [(0, .ref b0), (1, .ref (a 0)), (2, .ref (b 0)), (3, .int (nI i))]) : W p l e room_1 s m #[Value.ref b0] below meth c H locs 59 1562 (lw_Z below #[Value.ref b0] s) (F0 m 672 ls []) := by
  obtain ⟨C, hX, hbl, hJa, hJb, hdis, ha, hb0, hL⟩ := K
  obtain ⟨hx, hb, hr, hml, hown, ht, hlocks, hK, hN⟩ := id C
  have hbA : ¬ aLw s b0 := Nat.not_le.mpr hbl
  obtain ⟨z1, ez1⟩ : ∃ y, y = (xs (nI i + 1).toNatClampNeg) := ⟨_, rfl⟩
  obtain ⟨z2, ez2⟩ : ∃ y, y = (xs (nI i + 2).toNatClampNeg) := ⟨_, rfl⟩
  obtain ⟨z3, ez3⟩ : ∃ y, y = (xs (nI i + 3).toNatClampNeg) := ⟨_, rfl⟩
  obtain ⟨r, Mc', e1, e2, hM⟩ := sim_oval hM z1 z2 z3
  refine lv_aload_n hx hb dL_law_672 rfl (lv_at hl 1 rfl) ?_
  refine lv_aload_n hx hb dL_law_673 rfl (lv_at hl 0 rfl) ?_
  refine lv_iload_n hx hb dL_law_674 rfl (lv_at hl 3 rfl) ?_
  refine lv_iconst (v := 1) hx hb dL_law_675 (by decide) ?_
  refine lv_iadd hx hb dL_law_676 ?_
  refine va_sld hx hb hX hbl hbA hS (xin (k := 1) hi (by decide) hL) dL_law_677 ?_
  rw [← ez1]
  refine lv_aload_n hx hb dL_law_678 rfl (lv_at hl 0 rfl) ?_
  refine lv_iload_n hx hb dL_law_679 rfl (lv_at hl 3 rfl) ?_
  refine lv_iconst (v := 2) hx hb dL_law_680 (by decide) ?_
  refine lv_iadd hx hb dL_law_681 ?_
  refine va_sld hx hb hX hbl hbA hS (xin (k := 2) hi (by decide) hL) dL_law_682 ?_
  rw [← ez2]
  refine lv_aload_n hx hb dL_law_683 rfl (lv_at hl 0 rfl) ?_
  refine lv_iload_n hx hb dL_law_684 rfl (lv_at hl 3 rfl) ?_
  refine lv_iconst (v := 3) hx hb dL_law_685 (by decide) ?_
  refine lv_iadd hx hb dL_law_686 ?_
  refine va_sld hx hb hX hbl hbA hS (xin (k := 3) hi (by decide) hL) dL_law_687 ?_
  rw [← ez3]
  refine kL (rV (rest := []) C (c_X11_oval l D g a hJa NN Mc z1 z2 z3 r Mc' e1) ok_X11_oval wd_493 hP 0 (aC_0 g a Mc) rfl ⟨rfl, rfl, Nat.le_of_ble_eq_true rfl, Nat.le_of_ble_eq_true rfl⟩ rfl hl.1 rfl (Nat.le_of_ble_eq_true rfl) dL_law_688 ⟨Nat.le_of_ble_eq_true rfl, Nat.le_of_ble_eq_true rfl⟩) hS (aIn ha) hQ (dCM hdis) (fun H locs hP hQ hS => ?_)
  refine lv_aload_n hx hb dL_law_691 rfl (lv_at hl 2 rfl) ?_
  refine lv_aload_n hx hb dL_law_692 rfl (lv_at hl 0 rfl) ?_
  refine lv_iload_n hx hb dL_law_693 rfl (lv_at hl 3 rfl) ?_
  refine lv_iconst (v := 1) hx hb dL_law_694 (by decide) ?_
  refine lv_iadd hx hb dL_law_695 ?_
  refine va_sld hx hb hX hbl hbA hS (xin (k := 1) hi (by decide) hL) dL_law_696 ?_
  rw [← ez1]
  refine lv_aload_n hx hb dL_law_697 rfl (lv_at hl 0 rfl) ?_
  refine lv_iload_n hx hb dL_law_698 rfl (lv_at hl 3 rfl) ?_
  refine lv_iconst (v := 2) hx hb dL_law_699 (by decide) ?_
  refine lv_iadd hx hb dL_law_700 ?_
  refine va_sld hx hb hX hbl hbA hS (xin (k := 2) hi (by decide) hL) dL_law_701 ?_
  rw [← ez2]
  refine lv_aload_n hx hb dL_law_702 rfl (lv_at hl 0 rfl) ?_
  refine lv_iload_n hx hb dL_law_703 rfl (lv_at hl 3 rfl) ?_
  refine lv_iconst (v := 3) hx hb dL_law_704 (by decide) ?_
  refine lv_iadd hx hb dL_law_705 ?_
  refine va_sld hx hb hX hbl hbA hS (xin (k := 3) hi (by decide) hL) dL_law_706 ?_
  rw [← ez3]
  refine kR (rV (rest := [.int r]) C (c_X12_oval l D g b NN Mm z1 z2 z3 r e2) ok_X12_oval wd_933 hQ 0 (aM_0 g b Mm) rfl ⟨rfl, rfl, Nat.le_of_ble_eq_true rfl, Nat.le_of_ble_eq_true rfl⟩ rfl hl.1 rfl (Nat.le_of_ble_eq_true rfl) dL_law_707 ⟨Nat.le_of_ble_eq_true rfl, Nat.le_of_ble_eq_true rfl⟩) ?_
  refine lv_icmp_eq (tgt := 1333) hx hb dL_law_710 (by decide) (fun _ => ?_) (fun q => absurd rfl q)
  refine lv_iinc (v := nI (i + 6)) (lv' := [(3, .int (nI (i + 6))), (0, .ref b0), (1, .ref (a 0)), (2, .ref (b 0))]) hx hb dL_law_1333 hl (k := 3) rfl (by rw [← nI_add]; rfl) (by decide) rfl (fun ls hl => ?_)
  refine lv_goto (tgt := 18) hx hb dL_law_1336 (by decide) ?_
  exact ih Mc' Mm H locs ls hM hP hQ hS (lv_sub hl [1, 2, 3, 0] rfl)
set_option maxHeartbeats 4000000 in
set_option maxRecDepth 100000 in
theorem law_13 {p : Program} {l : Launch} {e : Env} {s : State} {m : MethodId} {below : List Frame} {meth : Method} {c : Code} {b0 L : Nat} {xs : Nat → Int32} {D : va_G} {g : Nat → ClassId} {a b : Nat → Nat} (K : LwC p s m meth c b0 L xs D g a b) {i : Nat} (hi : i + 6 ≤ L) (ih : LwS p l e s m below meth c b0 D g a b (i + 6)) (Mc Mm : Mem) (H : Heap) (locs : List Loc) (ls : Array Slot) (hM : Sim Mc Mm) (hP : va_P D clL (wC g a Mc) H) (hQ : va_P D clL (wM g b Mm) H) (hS : va_S (aLw s) s.heap H locs) (hl : lv_has ls 4 [(0, .ref b0), (1, .ref (a 0)), (2, .ref (b 0)), (3, .int (nI i))]) : W p l e room_1 s m #[Value.ref b0] below meth c H locs 59 1562 (lw_Z below #[Value.ref b0] s) (F0 m 715 ls []) := by
  obtain ⟨C, hX, hbl, hJa, hJb, hdis, ha, hb0, hL⟩ := K
  obtain ⟨hx, hb, hr, hml, hown, ht, hlocks, hK, hN⟩ := id C
  have hbA : ¬ aLw s b0 := Nat.not_le.mpr hbl
  obtain ⟨z1, ez1⟩ : ∃ y, y = (xs (nI i + 1).toNatClampNeg) := ⟨_, rfl⟩
  obtain ⟨z2, ez2⟩ : ∃ y, y = (xs (nI i + 2).toNatClampNeg) := ⟨_, rfl⟩
  obtain ⟨r, Mc', Mm', e1, e2, hM⟩ := sim_depth hM z1 z2
  refine lv_aload_n hx hb dL_law_715 rfl (lv_at hl 1 rfl) ?_
  refine lv_aload_n hx hb dL_law_716 rfl (lv_at hl 0 rfl) ?_
  refine lv_iload_n hx hb dL_law_717 rfl (lv_at hl 3 rfl) ?_
  refine lv_iconst (v := 1) hx hb dL_law_718 (by decide) ?_
  refine lv_iadd hx hb dL_law_719 ?_
  refine va_sld hx hb hX hbl hbA hS (xin (k := 1) hi (by decide) hL) dL_law_720 ?_
  rw [← ez1]
  refine lv_aload_n hx hb dL_law_721 rfl (lv_at hl 0 rfl) ?_
  refine lv_iload_n hx hb dL_law_722 rfl (lv_at hl 3 rfl) ?_
  refine lv_iconst (v := 2) hx hb dL_law_723 (by decide) ?_
  refine lv_iadd hx hb dL_law_724 ?_
  refine va_sld hx hb hX hbl hbA hS (xin (k := 2) hi (by decide) hL) dL_law_725 ?_
  rw [← ez2]
  refine kL (rV (rest := []) C (c_X11_depth l D g a hJa NN Mc z1 z2 r Mc' e1) ok_X11_depth wd_510 hP 0 (aC_0 g a Mc) rfl ⟨rfl, rfl, Nat.le_of_ble_eq_true rfl, Nat.le_of_ble_eq_true rfl⟩ rfl hl.1 rfl (Nat.le_of_ble_eq_true rfl) dL_law_726 ⟨Nat.le_of_ble_eq_true rfl, Nat.le_of_ble_eq_true rfl⟩) hS (aIn ha) hQ (dCM hdis) (fun H locs hP hQ hS => ?_)
  refine lv_aload_n hx hb dL_law_729 rfl (lv_at hl 2 rfl) ?_
  refine lv_aload_n hx hb dL_law_730 rfl (lv_at hl 0 rfl) ?_
  refine lv_iload_n hx hb dL_law_731 rfl (lv_at hl 3 rfl) ?_
  refine lv_iconst (v := 1) hx hb dL_law_732 (by decide) ?_
  refine lv_iadd hx hb dL_law_733 ?_
  refine va_sld hx hb hX hbl hbA hS (xin (k := 1) hi (by decide) hL) dL_law_734 ?_
  rw [← ez1]
  refine lv_aload_n hx hb dL_law_735 rfl (lv_at hl 0 rfl) ?_
  refine lv_iload_n hx hb dL_law_736 rfl (lv_at hl 3 rfl) ?_
  refine lv_iconst (v := 2) hx hb dL_law_737 (by decide) ?_
  refine lv_iadd hx hb dL_law_738 ?_
  refine va_sld hx hb hX hbl hbA hS (xin (k := 2) hi (by decide) hL) dL_law_739 ?_
  rw [← ez2]
  refine kL (rV (rest := [.int r]) C (c_X12_depth l D g b hJb NN Mm z1 z2 r Mm' e2) ok_X12_depth wd_941 hQ 0 (aM_0 g b Mm) rfl ⟨rfl, rfl, Nat.le_of_ble_eq_true rfl, Nat.le_of_ble_eq_true rfl⟩ rfl hl.1 rfl (Nat.le_of_ble_eq_true rfl) dL_law_740 ⟨Nat.le_of_ble_eq_true rfl, Nat.le_of_ble_eq_true rfl⟩) hS (aIn hb0) hP (dMC hdis) (fun H locs hQ hP hS => ?_)
  refine lv_icmp_eq (tgt := 1333) hx hb dL_law_743 (by decide) (fun _ => ?_) (fun q => absurd rfl q)
  refine lv_iinc (v := nI (i + 6)) (lv' := [(3, .int (nI (i + 6))), (0, .ref b0), (1, .ref (a 0)), (2, .ref (b 0))]) hx hb dL_law_1333 hl (k := 3) rfl (by rw [← nI_add]; rfl) (by decide) rfl (fun ls hl => ?_)
  refine lv_goto (tgt := 18) hx hb dL_law_1336 (by decide) ?_
  exact ih Mc' Mm' H locs ls hM hP hQ hS (lv_sub hl [1, 2, 3, 0] rfl)
set_option maxHeartbeats 4000000 in
set_option maxRecDepth 100000 in
theorem law_14 {p : Program} {l : Launch} {e : Env} {s : State} {m : MethodId} {below : List Frame} {meth : Method} {c : Code} {b0 L : Nat} {xs : Nat → Int32} {D : va_G} {g : Nat → ClassId} {a b : Nat → Nat} (K : LwC p s m meth c b0 L xs D g a b) {i : Nat} (hi : i + 6 ≤ L) (ih : LwS p l e s m below meth c b0 D g a b (i + 6)) (Mc Mm : Mem) (H : Heap) (locs : List Loc) (ls : Array Slot) (hM : Sim Mc Mm) (hP : va_P D clL (wC g a Mc) H) (hQ : va_P D clL (wM g b Mm) H) (hS : va_S (aLw s) s.heap H locs) (hl : lv_has ls 4 [(0, .ref b0), (1, .ref (a 0)), (2, .ref (b 0)), (3, .int (nI i))]) : W p l e room_1 s m #[Value.ref b0] below meth c H locs 59 1562 (lw_Z below #[Value.ref b0] s) (F0 m 748 ls []) := by
  obtain ⟨C, hX, hbl, hJa, hJb, hdis, ha, hb0, hL⟩ := K
  obtain ⟨hx, hb, hr, hml, hown, ht, hlocks, hK, hN⟩ := id C
  have hbA : ¬ aLw s b0 := Nat.not_le.mpr hbl
  obtain ⟨z1, ez1⟩ : ∃ y, y = (xs (nI i + 1).toNatClampNeg) := ⟨_, rfl⟩
  obtain ⟨r, Mc', Mm', e1, e2, hM⟩ := sim_pool hM z1
  refine lv_aload_n hx hb dL_law_748 rfl (lv_at hl 1 rfl) ?_
  refine lv_aload_n hx hb dL_law_749 rfl (lv_at hl 0 rfl) ?_
  refine lv_iload_n hx hb dL_law_750 rfl (lv_at hl 3 rfl) ?_
  refine lv_iconst (v := 1) hx hb dL_law_751 (by decide) ?_
  refine lv_iadd hx hb dL_law_752 ?_
  refine va_sld hx hb hX hbl hbA hS (xin (k := 1) hi (by decide) hL) dL_law_753 ?_
  rw [← ez1]
  refine kL (rV (rest := []) C (c_X11_pool l D g a hJa NN Mc z1 r Mc' e1) ok_X11_pool wd_540 hP 0 (aC_0 g a Mc) rfl ⟨rfl, rfl, Nat.le_of_ble_eq_true rfl, Nat.le_of_ble_eq_true rfl⟩ rfl hl.1 rfl (Nat.le_of_ble_eq_true rfl) dL_law_754 ⟨Nat.le_of_ble_eq_true rfl, Nat.le_of_ble_eq_true rfl⟩) hS (aIn ha) hQ (dCM hdis) (fun H locs hP hQ hS => ?_)
  refine lv_aload_n hx hb dL_law_757 rfl (lv_at hl 2 rfl) ?_
  refine lv_aload_n hx hb dL_law_758 rfl (lv_at hl 0 rfl) ?_
  refine lv_iload_n hx hb dL_law_759 rfl (lv_at hl 3 rfl) ?_
  refine lv_iconst (v := 1) hx hb dL_law_760 (by decide) ?_
  refine lv_iadd hx hb dL_law_761 ?_
  refine va_sld hx hb hX hbl hbA hS (xin (k := 1) hi (by decide) hL) dL_law_762 ?_
  rw [← ez1]
  refine kL (rV (rest := [.int r]) C (c_X12_pool l D g b hJb NN Mm z1 r Mm' e2) ok_X12_pool wd_953 hQ 0 (aM_0 g b Mm) rfl ⟨rfl, rfl, Nat.le_of_ble_eq_true rfl, Nat.le_of_ble_eq_true rfl⟩ rfl hl.1 rfl (Nat.le_of_ble_eq_true rfl) dL_law_763 ⟨Nat.le_of_ble_eq_true rfl, Nat.le_of_ble_eq_true rfl⟩) hS (aIn hb0) hP (dMC hdis) (fun H locs hQ hP hS => ?_)
  refine lv_icmp_eq (tgt := 1333) hx hb dL_law_766 (by decide) (fun _ => ?_) (fun q => absurd rfl q)
  refine lv_iinc (v := nI (i + 6)) (lv' := [(3, .int (nI (i + 6))), (0, .ref b0), (1, .ref (a 0)), (2, .ref (b 0))]) hx hb dL_law_1333 hl (k := 3) rfl (by rw [← nI_add]; rfl) (by decide) rfl (fun ls hl => ?_)
  refine lv_goto (tgt := 18) hx hb dL_law_1336 (by decide) ?_
  exact ih Mc' Mm' H locs ls hM hP hQ hS (lv_sub hl [1, 2, 3, 0] rfl)
set_option maxHeartbeats 4000000 in
set_option maxRecDepth 100000 in
theorem law_15 {p : Program} {l : Launch} {e : Env} {s : State} {m : MethodId} {below : List Frame} {meth : Method} {c : Code} {b0 L : Nat} {xs : Nat → Int32} {D : va_G} {g : Nat → ClassId} {a b : Nat → Nat} (K : LwC p s m meth c b0 L xs D g a b) {i : Nat} (hi : i + 6 ≤ L) (ih : LwS p l e s m below meth c b0 D g a b (i + 6)) (Mc Mm : Mem) (H : Heap) (locs : List Loc) (ls : Array Slot) (hM : Sim Mc Mm) (hP : va_P D clL (wC g a Mc) H) (hQ : va_P D clL (wM g b Mm) H) (hS : va_S (aLw s) s.heap H locs) (hl : lv_has ls 4 [(0, .ref b0), (1, .ref (a 0)), (2, .ref (b 0)), (3, .int (nI i))]) : W p l e room_1 s m #[Value.ref b0] below meth c H locs 59 1562 (lw_Z below #[Value.ref b0] s) (F0 m 771 ls []) := by
  obtain ⟨C, hX, hbl, hJa, hJb, hdis, ha, hb0, hL⟩ := K
  obtain ⟨hx, hb, hr, hml, hown, ht, hlocks, hK, hN⟩ := id C
  have hbA : ¬ aLw s b0 := Nat.not_le.mpr hbl
  obtain ⟨z1, ez1⟩ : ∃ y, y = (xs (nI i + 1).toNatClampNeg) := ⟨_, rfl⟩
  obtain ⟨z2, ez2⟩ : ∃ y, y = (xs (nI i + 2).toNatClampNeg) := ⟨_, rfl⟩
  obtain ⟨z3, ez3⟩ : ∃ y, y = (xs (nI i + 3).toNatClampNeg) := ⟨_, rfl⟩
  obtain ⟨r, Mc', Mm', e1, e2, hM⟩ := sim_drain hM z1 z2 z3
  refine lv_aload_n hx hb dL_law_771 rfl (lv_at hl 1 rfl) ?_
  refine lv_aload_n hx hb dL_law_772 rfl (lv_at hl 0 rfl) ?_
  refine lv_iload_n hx hb dL_law_773 rfl (lv_at hl 3 rfl) ?_
  refine lv_iconst (v := 1) hx hb dL_law_774 (by decide) ?_
  refine lv_iadd hx hb dL_law_775 ?_
  refine va_sld hx hb hX hbl hbA hS (xin (k := 1) hi (by decide) hL) dL_law_776 ?_
  rw [← ez1]
  refine lv_aload_n hx hb dL_law_777 rfl (lv_at hl 0 rfl) ?_
  refine lv_iload_n hx hb dL_law_778 rfl (lv_at hl 3 rfl) ?_
  refine lv_iconst (v := 2) hx hb dL_law_779 (by decide) ?_
  refine lv_iadd hx hb dL_law_780 ?_
  refine va_sld hx hb hX hbl hbA hS (xin (k := 2) hi (by decide) hL) dL_law_781 ?_
  rw [← ez2]
  refine lv_aload_n hx hb dL_law_782 rfl (lv_at hl 0 rfl) ?_
  refine lv_iload_n hx hb dL_law_783 rfl (lv_at hl 3 rfl) ?_
  refine lv_iconst (v := 3) hx hb dL_law_784 (by decide) ?_
  refine lv_iadd hx hb dL_law_785 ?_
  refine va_sld hx hb hX hbl hbA hS (xin (k := 3) hi (by decide) hL) dL_law_786 ?_
  rw [← ez3]
  refine kL (rV (rest := []) C (c_X11_drain l D g a hJa NN Mc z1 z2 z3 r Mc' e1) ok_X11_drain wd_550 hP 0 (aC_0 g a Mc) rfl ⟨rfl, rfl, Nat.le_of_ble_eq_true rfl, Nat.le_of_ble_eq_true rfl⟩ rfl hl.1 rfl (Nat.le_of_ble_eq_true rfl) dL_law_787 ⟨Nat.le_of_ble_eq_true rfl, Nat.le_of_ble_eq_true rfl⟩) hS (aIn ha) hQ (dCM hdis) (fun H locs hP hQ hS => ?_)
  refine lv_aload_n hx hb dL_law_790 rfl (lv_at hl 2 rfl) ?_
  refine lv_aload_n hx hb dL_law_791 rfl (lv_at hl 0 rfl) ?_
  refine lv_iload_n hx hb dL_law_792 rfl (lv_at hl 3 rfl) ?_
  refine lv_iconst (v := 1) hx hb dL_law_793 (by decide) ?_
  refine lv_iadd hx hb dL_law_794 ?_
  refine va_sld hx hb hX hbl hbA hS (xin (k := 1) hi (by decide) hL) dL_law_795 ?_
  rw [← ez1]
  refine lv_aload_n hx hb dL_law_796 rfl (lv_at hl 0 rfl) ?_
  refine lv_iload_n hx hb dL_law_797 rfl (lv_at hl 3 rfl) ?_
  refine lv_iconst (v := 2) hx hb dL_law_798 (by decide) ?_
  refine lv_iadd hx hb dL_law_799 ?_
  refine va_sld hx hb hX hbl hbA hS (xin (k := 2) hi (by decide) hL) dL_law_800 ?_
  rw [← ez2]
  refine lv_aload_n hx hb dL_law_801 rfl (lv_at hl 0 rfl) ?_
  refine lv_iload_n hx hb dL_law_802 rfl (lv_at hl 3 rfl) ?_
  refine lv_iconst (v := 3) hx hb dL_law_803 (by decide) ?_
  refine lv_iadd hx hb dL_law_804 ?_
  refine va_sld hx hb hX hbl hbA hS (xin (k := 3) hi (by decide) hL) dL_law_805 ?_
  rw [← ez3]
  refine kL (rV (rest := [.int r]) C (c_X12_drain l D g b hJb NN Mm z1 z2 z3 r Mm' e2) ok_X12_drain wd_961 hQ 0 (aM_0 g b Mm) rfl ⟨rfl, rfl, Nat.le_of_ble_eq_true rfl, Nat.le_of_ble_eq_true rfl⟩ rfl hl.1 rfl (Nat.le_of_ble_eq_true rfl) dL_law_806 ⟨Nat.le_of_ble_eq_true rfl, Nat.le_of_ble_eq_true rfl⟩) hS (aIn hb0) hP (dMC hdis) (fun H locs hQ hP hS => ?_)
  refine lv_icmp_eq (tgt := 1333) hx hb dL_law_809 (by decide) (fun _ => ?_) (fun q => absurd rfl q)
  refine lv_iinc (v := nI (i + 6)) (lv' := [(3, .int (nI (i + 6))), (0, .ref b0), (1, .ref (a 0)), (2, .ref (b 0))]) hx hb dL_law_1333 hl (k := 3) rfl (by rw [← nI_add]; rfl) (by decide) rfl (fun ls hl => ?_)
  refine lv_goto (tgt := 18) hx hb dL_law_1336 (by decide) ?_
  exact ih Mc' Mm' H locs ls hM hP hQ hS (lv_sub hl [1, 2, 3, 0] rfl)
set_option maxHeartbeats 4000000 in
set_option maxRecDepth 100000 in
theorem law_16 {p : Program} {l : Launch} {e : Env} {s : State} {m : MethodId} {below : List Frame} {meth : Method} {c : Code} {b0 L : Nat} {xs : Nat → Int32} {D : va_G} {g : Nat → ClassId} {a b : Nat → Nat} (K : LwC p s m meth c b0 L xs D g a b) {i : Nat} (hi : i + 6 ≤ L) (ih : LwS p l e s m below meth c b0 D g a b (i + 6)) (Mc Mm : Mem) (H : Heap) (locs : List Loc) (ls : Array Slot) (hM : Sim Mc Mm) (hP : va_P D clL (wC g a Mc) H) (hQ : va_P D clL (wM g b Mm) H) (hS : va_S (aLw s) s.heap H locs) (hl : lv_has ls 4 [(0, .ref b0), (1, .ref (a 0)), (2, .ref (b 0)), (3, .int (nI i))]) : W p l e room_1 s m #[Value.ref b0] below meth c H locs 59 1562 (lw_Z below #[Value.ref b0] s) (F0 m 814 ls []) := by
  obtain ⟨C, hX, hbl, hJa, hJb, hdis, ha, hb0, hL⟩ := K
  obtain ⟨hx, hb, hr, hml, hown, ht, hlocks, hK, hN⟩ := id C
  have hbA : ¬ aLw s b0 := Nat.not_le.mpr hbl
  obtain ⟨z1, ez1⟩ : ∃ y, y = (xs (nI i + 1).toNatClampNeg) := ⟨_, rfl⟩
  obtain ⟨z2, ez2⟩ : ∃ y, y = (xs (nI i + 2).toNatClampNeg) := ⟨_, rfl⟩
  obtain ⟨z3, ez3⟩ : ∃ y, y = (xs (nI i + 3).toNatClampNeg) := ⟨_, rfl⟩
  obtain ⟨r, e1, e2⟩ := sim_statue hM z1 z2 z3
  refine lv_aload_n hx hb dL_law_814 rfl (lv_at hl 1 rfl) ?_
  refine lv_aload_n hx hb dL_law_815 rfl (lv_at hl 0 rfl) ?_
  refine lv_iload_n hx hb dL_law_816 rfl (lv_at hl 3 rfl) ?_
  refine lv_iconst (v := 1) hx hb dL_law_817 (by decide) ?_
  refine lv_iadd hx hb dL_law_818 ?_
  refine va_sld hx hb hX hbl hbA hS (xin (k := 1) hi (by decide) hL) dL_law_819 ?_
  rw [← ez1]
  refine lv_aload_n hx hb dL_law_820 rfl (lv_at hl 0 rfl) ?_
  refine lv_iload_n hx hb dL_law_821 rfl (lv_at hl 3 rfl) ?_
  refine lv_iconst (v := 2) hx hb dL_law_822 (by decide) ?_
  refine lv_iadd hx hb dL_law_823 ?_
  refine va_sld hx hb hX hbl hbA hS (xin (k := 2) hi (by decide) hL) dL_law_824 ?_
  rw [← ez2]
  refine lv_aload_n hx hb dL_law_825 rfl (lv_at hl 0 rfl) ?_
  refine lv_iload_n hx hb dL_law_826 rfl (lv_at hl 3 rfl) ?_
  refine lv_iconst (v := 3) hx hb dL_law_827 (by decide) ?_
  refine lv_iadd hx hb dL_law_828 ?_
  refine va_sld hx hb hX hbl hbA hS (xin (k := 3) hi (by decide) hL) dL_law_829 ?_
  rw [← ez3]
  refine kR (rV (rest := []) C (c_X11_statue l D g a NN Mc z1 z2 z3 r e1) ok_X11_statue wd_564 hP 0 (aC_0 g a Mc) rfl ⟨rfl, rfl, Nat.le_of_ble_eq_true rfl, Nat.le_of_ble_eq_true rfl⟩ rfl hl.1 rfl (Nat.le_of_ble_eq_true rfl) dL_law_830 ⟨Nat.le_of_ble_eq_true rfl, Nat.le_of_ble_eq_true rfl⟩) ?_
  refine lv_aload_n hx hb dL_law_833 rfl (lv_at hl 2 rfl) ?_
  refine lv_aload_n hx hb dL_law_834 rfl (lv_at hl 0 rfl) ?_
  refine lv_iload_n hx hb dL_law_835 rfl (lv_at hl 3 rfl) ?_
  refine lv_iconst (v := 1) hx hb dL_law_836 (by decide) ?_
  refine lv_iadd hx hb dL_law_837 ?_
  refine va_sld hx hb hX hbl hbA hS (xin (k := 1) hi (by decide) hL) dL_law_838 ?_
  rw [← ez1]
  refine lv_aload_n hx hb dL_law_839 rfl (lv_at hl 0 rfl) ?_
  refine lv_iload_n hx hb dL_law_840 rfl (lv_at hl 3 rfl) ?_
  refine lv_iconst (v := 2) hx hb dL_law_841 (by decide) ?_
  refine lv_iadd hx hb dL_law_842 ?_
  refine va_sld hx hb hX hbl hbA hS (xin (k := 2) hi (by decide) hL) dL_law_843 ?_
  rw [← ez2]
  refine lv_aload_n hx hb dL_law_844 rfl (lv_at hl 0 rfl) ?_
  refine lv_iload_n hx hb dL_law_845 rfl (lv_at hl 3 rfl) ?_
  refine lv_iconst (v := 3) hx hb dL_law_846 (by decide) ?_
  refine lv_iadd hx hb dL_law_847 ?_
  refine va_sld hx hb hX hbl hbA hS (xin (k := 3) hi (by decide) hL) dL_law_848 ?_
  rw [← ez3]
  refine kR (rV (rest := [.int r]) C (c_X12_statue l D g b NN Mm z1 z2 z3 r e2) ok_X12_statue wd_965 hQ 0 (aM_0 g b Mm) rfl ⟨rfl, rfl, Nat.le_of_ble_eq_true rfl, Nat.le_of_ble_eq_true rfl⟩ rfl hl.1 rfl (Nat.le_of_ble_eq_true rfl) dL_law_849 ⟨Nat.le_of_ble_eq_true rfl, Nat.le_of_ble_eq_true rfl⟩) ?_
  refine lv_icmp_eq (tgt := 1333) hx hb dL_law_852 (by decide) (fun _ => ?_) (fun q => absurd rfl q)
  refine lv_iinc (v := nI (i + 6)) (lv' := [(3, .int (nI (i + 6))), (0, .ref b0), (1, .ref (a 0)), (2, .ref (b 0))]) hx hb dL_law_1333 hl (k := 3) rfl (by rw [← nI_add]; rfl) (by decide) rfl (fun ls hl => ?_)
  refine lv_goto (tgt := 18) hx hb dL_law_1336 (by decide) ?_
  exact ih Mc Mm H locs ls hM hP hQ hS (lv_sub hl [1, 2, 3, 0] rfl)
set_option maxHeartbeats 4000000 in
set_option maxRecDepth 100000 in
theorem law_17 {p : Program} {l : Launch} {e : Env} {s : State} {m : MethodId} {below : List Frame} {meth : Method} {c : Code} {b0 L : Nat} {xs : Nat → Int32} {D : va_G} {g : Nat → ClassId} {a b : Nat → Nat} (K : LwC p s m meth c b0 L xs D g a b) {i : Nat} (hi : i + 6 ≤ L) (ih : LwS p l e s m below meth c b0 D g a b (i + 6)) (Mc Mm : Mem) (H : Heap) (locs : List Loc) (ls : Array Slot) (hM : Sim Mc Mm) (hP : va_P D clL (wC g a Mc) H) (hQ : va_P D clL (wM g b Mm) H) (hS : va_S (aLw s) s.heap H locs) (hl : lv_has ls 4 [(0, .ref b0), (1, .ref (a 0)), (2, .ref (b 0)), (3, .int (nI i))]) : W p l e room_1 s m #[Value.ref b0] below meth c H locs 59 1562 (lw_Z below #[Value.ref b0] s) (F0 m 857 ls []) := by
  obtain ⟨C, hX, hbl, hJa, hJb, hdis, ha, hb0, hL⟩ := K
  obtain ⟨hx, hb, hr, hml, hown, ht, hlocks, hK, hN⟩ := id C
  have hbA : ¬ aLw s b0 := Nat.not_le.mpr hbl
  obtain ⟨z1, ez1⟩ : ∃ y, y = (xs (nI i + 1).toNatClampNeg) := ⟨_, rfl⟩
  obtain ⟨z2, ez2⟩ : ∃ y, y = (xs (nI i + 2).toNatClampNeg) := ⟨_, rfl⟩
  obtain ⟨z3, ez3⟩ : ∃ y, y = (xs (nI i + 3).toNatClampNeg) := ⟨_, rfl⟩
  obtain ⟨r, Mc', Mm', e1, e2, hM⟩ := sim_nights hM z1 z2 z3
  refine lv_aload_n hx hb dL_law_857 rfl (lv_at hl 1 rfl) ?_
  refine lv_aload_n hx hb dL_law_858 rfl (lv_at hl 0 rfl) ?_
  refine lv_iload_n hx hb dL_law_859 rfl (lv_at hl 3 rfl) ?_
  refine lv_iconst (v := 1) hx hb dL_law_860 (by decide) ?_
  refine lv_iadd hx hb dL_law_861 ?_
  refine va_sld hx hb hX hbl hbA hS (xin (k := 1) hi (by decide) hL) dL_law_862 ?_
  rw [← ez1]
  refine lv_aload_n hx hb dL_law_863 rfl (lv_at hl 0 rfl) ?_
  refine lv_iload_n hx hb dL_law_864 rfl (lv_at hl 3 rfl) ?_
  refine lv_iconst (v := 2) hx hb dL_law_865 (by decide) ?_
  refine lv_iadd hx hb dL_law_866 ?_
  refine va_sld hx hb hX hbl hbA hS (xin (k := 2) hi (by decide) hL) dL_law_867 ?_
  rw [← ez2]
  refine lv_aload_n hx hb dL_law_868 rfl (lv_at hl 0 rfl) ?_
  refine lv_iload_n hx hb dL_law_869 rfl (lv_at hl 3 rfl) ?_
  refine lv_iconst (v := 3) hx hb dL_law_870 (by decide) ?_
  refine lv_iadd hx hb dL_law_871 ?_
  refine va_sld hx hb hX hbl hbA hS (xin (k := 3) hi (by decide) hL) dL_law_872 ?_
  rw [← ez3]
  refine kL (rV (rest := []) C (c_X11_nights l D g a hJa NN Mc z1 z2 z3 r Mc' e1) ok_X11_nights wd_574 hP 0 (aC_0 g a Mc) rfl ⟨rfl, rfl, Nat.le_of_ble_eq_true rfl, Nat.le_of_ble_eq_true rfl⟩ rfl hl.1 rfl (Nat.le_of_ble_eq_true rfl) dL_law_873 ⟨Nat.le_of_ble_eq_true rfl, Nat.le_of_ble_eq_true rfl⟩) hS (aIn ha) hQ (dCM hdis) (fun H locs hP hQ hS => ?_)
  refine lv_aload_n hx hb dL_law_876 rfl (lv_at hl 2 rfl) ?_
  refine lv_aload_n hx hb dL_law_877 rfl (lv_at hl 0 rfl) ?_
  refine lv_iload_n hx hb dL_law_878 rfl (lv_at hl 3 rfl) ?_
  refine lv_iconst (v := 1) hx hb dL_law_879 (by decide) ?_
  refine lv_iadd hx hb dL_law_880 ?_
  refine va_sld hx hb hX hbl hbA hS (xin (k := 1) hi (by decide) hL) dL_law_881 ?_
  rw [← ez1]
  refine lv_aload_n hx hb dL_law_882 rfl (lv_at hl 0 rfl) ?_
  refine lv_iload_n hx hb dL_law_883 rfl (lv_at hl 3 rfl) ?_
  refine lv_iconst (v := 2) hx hb dL_law_884 (by decide) ?_
  refine lv_iadd hx hb dL_law_885 ?_
  refine va_sld hx hb hX hbl hbA hS (xin (k := 2) hi (by decide) hL) dL_law_886 ?_
  rw [← ez2]
  refine lv_aload_n hx hb dL_law_887 rfl (lv_at hl 0 rfl) ?_
  refine lv_iload_n hx hb dL_law_888 rfl (lv_at hl 3 rfl) ?_
  refine lv_iconst (v := 3) hx hb dL_law_889 (by decide) ?_
  refine lv_iadd hx hb dL_law_890 ?_
  refine va_sld hx hb hX hbl hbA hS (xin (k := 3) hi (by decide) hL) dL_law_891 ?_
  rw [← ez3]
  refine kL (rV (rest := [.int r]) C (c_X12_nights l D g b hJb NN Mm z1 z2 z3 r Mm' e2) ok_X12_nights wd_973 hQ 0 (aM_0 g b Mm) rfl ⟨rfl, rfl, Nat.le_of_ble_eq_true rfl, Nat.le_of_ble_eq_true rfl⟩ rfl hl.1 rfl (Nat.le_of_ble_eq_true rfl) dL_law_892 ⟨Nat.le_of_ble_eq_true rfl, Nat.le_of_ble_eq_true rfl⟩) hS (aIn hb0) hP (dMC hdis) (fun H locs hQ hP hS => ?_)
  refine lv_icmp_eq (tgt := 1333) hx hb dL_law_895 (by decide) (fun _ => ?_) (fun q => absurd rfl q)
  refine lv_iinc (v := nI (i + 6)) (lv' := [(3, .int (nI (i + 6))), (0, .ref b0), (1, .ref (a 0)), (2, .ref (b 0))]) hx hb dL_law_1333 hl (k := 3) rfl (by rw [← nI_add]; rfl) (by decide) rfl (fun ls hl => ?_)
  refine lv_goto (tgt := 18) hx hb dL_law_1336 (by decide) ?_
  exact ih Mc' Mm' H locs ls hM hP hQ hS (lv_sub hl [1, 2, 3, 0] rfl)
set_option maxHeartbeats 4000000 in
set_option maxRecDepth 100000 in
theorem law_18 {p : Program} {l : Launch} {e : Env} {s : State} {m : MethodId} {below : List Frame} {meth : Method} {c : Code} {b0 L : Nat} {xs : Nat → Int32} {D : va_G} {g : Nat → ClassId} {a b : Nat → Nat} (K : LwC p s m meth c b0 L xs D g a b) {i : Nat} (hi : i + 6 ≤ L) (ih : LwS p l e s m below meth c b0 D g a b (i + 6)) (Mc Mm : Mem) (H : Heap) (locs : List Loc) (ls : Array Slot) (hM : Sim Mc Mm) (hP : va_P D clL (wC g a Mc) H) (hQ : va_P D clL (wM g b Mm) H) (hS : va_S (aLw s) s.heap H locs) (hl : lv_has ls 4 [(0, .ref b0), (1, .ref (a 0)), (2, .ref (b 0)), (3, .int (nI i))]) : W p l e room_1 s m #[Value.ref b0] below meth c H locs 59 1562 (lw_Z below #[Value.ref b0] s) (F0 m 900 ls []) := by
  obtain ⟨C, hX, hbl, hJa, hJb, hdis, ha, hb0, hL⟩ := K
  obtain ⟨hx, hb, hr, hml, hown, ht, hlocks, hK, hN⟩ := id C
  have hbA : ¬ aLw s b0 := Nat.not_le.mpr hbl
  obtain ⟨z1, ez1⟩ : ∃ y, y = (xs (nI i + 1).toNatClampNeg) := ⟨_, rfl⟩
  obtain ⟨z2, ez2⟩ : ∃ y, y = (xs (nI i + 2).toNatClampNeg) := ⟨_, rfl⟩
  obtain ⟨z3, ez3⟩ : ∃ y, y = (xs (nI i + 3).toNatClampNeg) := ⟨_, rfl⟩
  obtain ⟨r, Mc', Mm', e1, e2, hM⟩ := sim_reading hM z1 z2 z3
  refine lv_aload_n hx hb dL_law_900 rfl (lv_at hl 1 rfl) ?_
  refine lv_aload_n hx hb dL_law_901 rfl (lv_at hl 0 rfl) ?_
  refine lv_iload_n hx hb dL_law_902 rfl (lv_at hl 3 rfl) ?_
  refine lv_iconst (v := 1) hx hb dL_law_903 (by decide) ?_
  refine lv_iadd hx hb dL_law_904 ?_
  refine va_sld hx hb hX hbl hbA hS (xin (k := 1) hi (by decide) hL) dL_law_905 ?_
  rw [← ez1]
  refine lv_aload_n hx hb dL_law_906 rfl (lv_at hl 0 rfl) ?_
  refine lv_iload_n hx hb dL_law_907 rfl (lv_at hl 3 rfl) ?_
  refine lv_iconst (v := 2) hx hb dL_law_908 (by decide) ?_
  refine lv_iadd hx hb dL_law_909 ?_
  refine va_sld hx hb hX hbl hbA hS (xin (k := 2) hi (by decide) hL) dL_law_910 ?_
  rw [← ez2]
  refine lv_aload_n hx hb dL_law_911 rfl (lv_at hl 0 rfl) ?_
  refine lv_iload_n hx hb dL_law_912 rfl (lv_at hl 3 rfl) ?_
  refine lv_iconst (v := 3) hx hb dL_law_913 (by decide) ?_
  refine lv_iadd hx hb dL_law_914 ?_
  refine va_sld hx hb hX hbl hbA hS (xin (k := 3) hi (by decide) hL) dL_law_915 ?_
  rw [← ez3]
  refine kL (rV (rest := []) C (c_X11_reading l D g a hJa Mc z1 z2 z3 r Mc' e1) ok_X11_reading wd_589 hP 0 (aC_0 g a Mc) rfl ⟨rfl, rfl, Nat.le_of_ble_eq_true rfl, Nat.le_of_ble_eq_true rfl⟩ rfl hl.1 rfl (Nat.le_of_ble_eq_true rfl) dL_law_916 ⟨Nat.le_of_ble_eq_true rfl, Nat.le_of_ble_eq_true rfl⟩) hS (aIn ha) hQ (dCM hdis) (fun H locs hP hQ hS => ?_)
  refine lv_aload_n hx hb dL_law_919 rfl (lv_at hl 2 rfl) ?_
  refine lv_aload_n hx hb dL_law_920 rfl (lv_at hl 0 rfl) ?_
  refine lv_iload_n hx hb dL_law_921 rfl (lv_at hl 3 rfl) ?_
  refine lv_iconst (v := 1) hx hb dL_law_922 (by decide) ?_
  refine lv_iadd hx hb dL_law_923 ?_
  refine va_sld hx hb hX hbl hbA hS (xin (k := 1) hi (by decide) hL) dL_law_924 ?_
  rw [← ez1]
  refine lv_aload_n hx hb dL_law_925 rfl (lv_at hl 0 rfl) ?_
  refine lv_iload_n hx hb dL_law_926 rfl (lv_at hl 3 rfl) ?_
  refine lv_iconst (v := 2) hx hb dL_law_927 (by decide) ?_
  refine lv_iadd hx hb dL_law_928 ?_
  refine va_sld hx hb hX hbl hbA hS (xin (k := 2) hi (by decide) hL) dL_law_929 ?_
  rw [← ez2]
  refine lv_aload_n hx hb dL_law_930 rfl (lv_at hl 0 rfl) ?_
  refine lv_iload_n hx hb dL_law_931 rfl (lv_at hl 3 rfl) ?_
  refine lv_iconst (v := 3) hx hb dL_law_932 (by decide) ?_
  refine lv_iadd hx hb dL_law_933 ?_
  refine va_sld hx hb hX hbl hbA hS (xin (k := 3) hi (by decide) hL) dL_law_934 ?_
  rw [← ez3]
  refine kL (rV (rest := [.int r]) C (c_X12_reading l D g b hJb Mm z1 z2 z3 r Mm' e2) ok_X12_reading wd_985 hQ 0 (aM_0 g b Mm) rfl ⟨rfl, rfl, Nat.le_of_ble_eq_true rfl, Nat.le_of_ble_eq_true rfl⟩ rfl hl.1 rfl (Nat.le_of_ble_eq_true rfl) dL_law_935 ⟨Nat.le_of_ble_eq_true rfl, Nat.le_of_ble_eq_true rfl⟩) hS (aIn hb0) hP (dMC hdis) (fun H locs hQ hP hS => ?_)
  refine lv_icmp_eq (tgt := 1333) hx hb dL_law_938 (by decide) (fun _ => ?_) (fun q => absurd rfl q)
  refine lv_iinc (v := nI (i + 6)) (lv' := [(3, .int (nI (i + 6))), (0, .ref b0), (1, .ref (a 0)), (2, .ref (b 0))]) hx hb dL_law_1333 hl (k := 3) rfl (by rw [← nI_add]; rfl) (by decide) rfl (fun ls hl => ?_)
  refine lv_goto (tgt := 18) hx hb dL_law_1336 (by decide) ?_
  exact ih Mc' Mm' H locs ls hM hP hQ hS (lv_sub hl [1, 2, 3, 0] rfl)
set_option maxHeartbeats 4000000 in
set_option maxRecDepth 100000 in
theorem law_19 {p : Program} {l : Launch} {e : Env} {s : State} {m : MethodId} {below : List Frame} {meth : Method} {c : Code} {b0 L : Nat} {xs : Nat → Int32} {D : va_G} {g : Nat → ClassId} {a b : Nat → Nat} (K : LwC p s m meth c b0 L xs D g a b) {i : Nat} (hi : i + 6 ≤ L) (ih : LwS p l e s m below meth c b0 D g a b (i + 6)) (Mc Mm : Mem) (H : Heap) (locs : List Loc) (ls : Array Slot) (hM : Sim Mc Mm) (hP : va_P D clL (wC g a Mc) H) (hQ : va_P D clL (wM g b Mm) H) (hS : va_S (aLw s) s.heap H locs) (hl : lv_has ls 4 [(0, .ref b0), (1, .ref (a 0)), (2, .ref (b 0)), (3, .int (nI i))]) : W p l e room_1 s m #[Value.ref b0] below meth c H locs 59 1562 (lw_Z below #[Value.ref b0] s) (F0 m 943 ls []) := by
  obtain ⟨C, hX, hbl, hJa, hJb, hdis, ha, hb0, hL⟩ := K
  obtain ⟨hx, hb, hr, hml, hown, ht, hlocks, hK, hN⟩ := id C
  have hbA : ¬ aLw s b0 := Nat.not_le.mpr hbl
  obtain ⟨z1, ez1⟩ : ∃ y, y = (xs (nI i + 1).toNatClampNeg) := ⟨_, rfl⟩
  obtain ⟨r, Mc', Mm', e1, e2, hM⟩ := sim_back hM z1
  refine lv_aload_n hx hb dL_law_943 rfl (lv_at hl 1 rfl) ?_
  refine lv_aload_n hx hb dL_law_944 rfl (lv_at hl 0 rfl) ?_
  refine lv_iload_n hx hb dL_law_945 rfl (lv_at hl 3 rfl) ?_
  refine lv_iconst (v := 1) hx hb dL_law_946 (by decide) ?_
  refine lv_iadd hx hb dL_law_947 ?_
  refine va_sld hx hb hX hbl hbA hS (xin (k := 1) hi (by decide) hL) dL_law_948 ?_
  rw [← ez1]
  refine kL (rV (rest := []) C (c_X11_back l D g a hJa Mc z1 r Mc' e1) ok_X11_back wd_601 hP 0 (aC_0 g a Mc) rfl ⟨rfl, rfl, Nat.le_of_ble_eq_true rfl, Nat.le_of_ble_eq_true rfl⟩ rfl hl.1 rfl (Nat.le_of_ble_eq_true rfl) dL_law_949 ⟨Nat.le_of_ble_eq_true rfl, Nat.le_of_ble_eq_true rfl⟩) hS (aIn ha) hQ (dCM hdis) (fun H locs hP hQ hS => ?_)
  refine lv_aload_n hx hb dL_law_952 rfl (lv_at hl 2 rfl) ?_
  refine lv_aload_n hx hb dL_law_953 rfl (lv_at hl 0 rfl) ?_
  refine lv_iload_n hx hb dL_law_954 rfl (lv_at hl 3 rfl) ?_
  refine lv_iconst (v := 1) hx hb dL_law_955 (by decide) ?_
  refine lv_iadd hx hb dL_law_956 ?_
  refine va_sld hx hb hX hbl hbA hS (xin (k := 1) hi (by decide) hL) dL_law_957 ?_
  rw [← ez1]
  refine kL (rV (rest := [.int r]) C (c_X12_back l D g b hJb Mm z1 r Mm' e2) ok_X12_back wd_989 hQ 0 (aM_0 g b Mm) rfl ⟨rfl, rfl, Nat.le_of_ble_eq_true rfl, Nat.le_of_ble_eq_true rfl⟩ rfl hl.1 rfl (Nat.le_of_ble_eq_true rfl) dL_law_958 ⟨Nat.le_of_ble_eq_true rfl, Nat.le_of_ble_eq_true rfl⟩) hS (aIn hb0) hP (dMC hdis) (fun H locs hQ hP hS => ?_)
  refine lv_icmp_eq (tgt := 1333) hx hb dL_law_961 (by decide) (fun _ => ?_) (fun q => absurd rfl q)
  refine lv_iinc (v := nI (i + 6)) (lv' := [(3, .int (nI (i + 6))), (0, .ref b0), (1, .ref (a 0)), (2, .ref (b 0))]) hx hb dL_law_1333 hl (k := 3) rfl (by rw [← nI_add]; rfl) (by decide) rfl (fun ls hl => ?_)
  refine lv_goto (tgt := 18) hx hb dL_law_1336 (by decide) ?_
  exact ih Mc' Mm' H locs ls hM hP hQ hS (lv_sub hl [1, 2, 3, 0] rfl)
set_option maxHeartbeats 4000000 in
set_option maxRecDepth 100000 in
theorem law_20 {p : Program} {l : Launch} {e : Env} {s : State} {m : MethodId} {below : List Frame} {meth : Method} {c : Code} {b0 L : Nat} {xs : Nat → Int32} {D : va_G} {g : Nat → ClassId} {a b : Nat → Nat} (K : LwC p s m meth c b0 L xs D g a b) {i : Nat} (hi : i + 6 ≤ L) (ih : LwS p l e s m below meth c b0 D g a b (i + 6)) (Mc Mm : Mem) (H : Heap) (locs : List Loc) (ls : Array Slot) (hM : Sim Mc Mm) (hP : va_P D clL (wC g a Mc) H) (hQ : va_P D clL (wM g b Mm) H) (hS : va_S (aLw s) s.heap H locs) (hl : lv_has ls 4 [(0, .ref b0), (1, .ref (a 0)), (2, .ref (b 0)), (3, .int (nI i))]) : W p l e room_1 s m #[Value.ref b0] below meth c H locs 59 1562 (lw_Z below #[Value.ref b0] s) (F0 m 966 ls []) := by
  obtain ⟨C, hX, hbl, hJa, hJb, hdis, ha, hb0, hL⟩ := K
  obtain ⟨hx, hb, hr, hml, hown, ht, hlocks, hK, hN⟩ := id C
  have hbA : ¬ aLw s b0 := Nat.not_le.mpr hbl
  obtain ⟨z1, ez1⟩ : ∃ y, y = (xs (nI i + 1).toNatClampNeg) := ⟨_, rfl⟩
  obtain ⟨r, e1, e2⟩ := sim_kinds hM z1
  refine lv_aload_n hx hb dL_law_966 rfl (lv_at hl 1 rfl) ?_
  refine lv_aload_n hx hb dL_law_967 rfl (lv_at hl 0 rfl) ?_
  refine lv_iload_n hx hb dL_law_968 rfl (lv_at hl 3 rfl) ?_
  refine lv_iconst (v := 1) hx hb dL_law_969 (by decide) ?_
  refine lv_iadd hx hb dL_law_970 ?_
  refine va_sld hx hb hX hbl hbA hS (xin (k := 1) hi (by decide) hL) dL_law_971 ?_
  rw [← ez1]
  refine kR (rV (rest := []) C (c_X11_kinds l D g a NN Mc z1 r e1) ok_X11_kinds wd_609 hP 0 (aC_0 g a Mc) rfl ⟨rfl, rfl, Nat.le_of_ble_eq_true rfl, Nat.le_of_ble_eq_true rfl⟩ rfl hl.1 rfl (Nat.le_of_ble_eq_true rfl) dL_law_972 ⟨Nat.le_of_ble_eq_true rfl, Nat.le_of_ble_eq_true rfl⟩) ?_
  refine lv_aload_n hx hb dL_law_975 rfl (lv_at hl 2 rfl) ?_
  refine lv_aload_n hx hb dL_law_976 rfl (lv_at hl 0 rfl) ?_
  refine lv_iload_n hx hb dL_law_977 rfl (lv_at hl 3 rfl) ?_
  refine lv_iconst (v := 1) hx hb dL_law_978 (by decide) ?_
  refine lv_iadd hx hb dL_law_979 ?_
  refine va_sld hx hb hX hbl hbA hS (xin (k := 1) hi (by decide) hL) dL_law_980 ?_
  rw [← ez1]
  refine kR (rV (rest := [.int r]) C (c_X12_kinds l D g b NN Mm z1 r e2) ok_X12_kinds wd_993 hQ 0 (aM_0 g b Mm) rfl ⟨rfl, rfl, Nat.le_of_ble_eq_true rfl, Nat.le_of_ble_eq_true rfl⟩ rfl hl.1 rfl (Nat.le_of_ble_eq_true rfl) dL_law_981 ⟨Nat.le_of_ble_eq_true rfl, Nat.le_of_ble_eq_true rfl⟩) ?_
  refine lv_icmp_eq (tgt := 1333) hx hb dL_law_984 (by decide) (fun _ => ?_) (fun q => absurd rfl q)
  refine lv_iinc (v := nI (i + 6)) (lv' := [(3, .int (nI (i + 6))), (0, .ref b0), (1, .ref (a 0)), (2, .ref (b 0))]) hx hb dL_law_1333 hl (k := 3) rfl (by rw [← nI_add]; rfl) (by decide) rfl (fun ls hl => ?_)
  refine lv_goto (tgt := 18) hx hb dL_law_1336 (by decide) ?_
  exact ih Mc Mm H locs ls hM hP hQ hS (lv_sub hl [1, 2, 3, 0] rfl)
set_option maxHeartbeats 4000000 in
set_option maxRecDepth 100000 in
theorem law_21 {p : Program} {l : Launch} {e : Env} {s : State} {m : MethodId} {below : List Frame} {meth : Method} {c : Code} {b0 L : Nat} {xs : Nat → Int32} {D : va_G} {g : Nat → ClassId} {a b : Nat → Nat} (K : LwC p s m meth c b0 L xs D g a b) {i : Nat} (hi : i + 6 ≤ L) (ih : LwS p l e s m below meth c b0 D g a b (i + 6)) (Mc Mm : Mem) (H : Heap) (locs : List Loc) (ls : Array Slot) (hM : Sim Mc Mm) (hP : va_P D clL (wC g a Mc) H) (hQ : va_P D clL (wM g b Mm) H) (hS : va_S (aLw s) s.heap H locs) (hl : lv_has ls 4 [(0, .ref b0), (1, .ref (a 0)), (2, .ref (b 0)), (3, .int (nI i))]) : W p l e room_1 s m #[Value.ref b0] below meth c H locs 59 1562 (lw_Z below #[Value.ref b0] s) (F0 m 989 ls []) := by
  obtain ⟨C, hX, hbl, hJa, hJb, hdis, ha, hb0, hL⟩ := K
  obtain ⟨hx, hb, hr, hml, hown, ht, hlocks, hK, hN⟩ := id C
  have hbA : ¬ aLw s b0 := Nat.not_le.mpr hbl
  obtain ⟨z1, ez1⟩ : ∃ y, y = (xs (nI i + 1).toNatClampNeg) := ⟨_, rfl⟩
  obtain ⟨z2, ez2⟩ : ∃ y, y = (xs (nI i + 2).toNatClampNeg) := ⟨_, rfl⟩
  obtain ⟨z3, ez3⟩ : ∃ y, y = (xs (nI i + 3).toNatClampNeg) := ⟨_, rfl⟩
  obtain ⟨r, Mc', Mm', e1, e2, hM⟩ := sim_sheet hM z1 z2 z3
  refine lv_aload_n hx hb dL_law_989 rfl (lv_at hl 1 rfl) ?_
  refine lv_aload_n hx hb dL_law_990 rfl (lv_at hl 0 rfl) ?_
  refine lv_iload_n hx hb dL_law_991 rfl (lv_at hl 3 rfl) ?_
  refine lv_iconst (v := 1) hx hb dL_law_992 (by decide) ?_
  refine lv_iadd hx hb dL_law_993 ?_
  refine va_sld hx hb hX hbl hbA hS (xin (k := 1) hi (by decide) hL) dL_law_994 ?_
  rw [← ez1]
  refine lv_aload_n hx hb dL_law_995 rfl (lv_at hl 0 rfl) ?_
  refine lv_iload_n hx hb dL_law_996 rfl (lv_at hl 3 rfl) ?_
  refine lv_iconst (v := 2) hx hb dL_law_997 (by decide) ?_
  refine lv_iadd hx hb dL_law_998 ?_
  refine va_sld hx hb hX hbl hbA hS (xin (k := 2) hi (by decide) hL) dL_law_999 ?_
  rw [← ez2]
  refine lv_aload_n hx hb dL_law_1000 rfl (lv_at hl 0 rfl) ?_
  refine lv_iload_n hx hb dL_law_1001 rfl (lv_at hl 3 rfl) ?_
  refine lv_iconst (v := 3) hx hb dL_law_1002 (by decide) ?_
  refine lv_iadd hx hb dL_law_1003 ?_
  refine va_sld hx hb hX hbl hbA hS (xin (k := 3) hi (by decide) hL) dL_law_1004 ?_
  rw [← ez3]
  refine kL (rV (rest := []) C (c_X11_sheet l D g a hJa NN Mc z1 z2 z3 r Mc' e1) ok_X11_sheet wd_622 hP 0 (aC_0 g a Mc) rfl ⟨rfl, rfl, Nat.le_of_ble_eq_true rfl, Nat.le_of_ble_eq_true rfl⟩ rfl hl.1 rfl (Nat.le_of_ble_eq_true rfl) dL_law_1005 ⟨Nat.le_of_ble_eq_true rfl, Nat.le_of_ble_eq_true rfl⟩) hS (aIn ha) hQ (dCM hdis) (fun H locs hP hQ hS => ?_)
  refine lv_aload_n hx hb dL_law_1008 rfl (lv_at hl 2 rfl) ?_
  refine lv_aload_n hx hb dL_law_1009 rfl (lv_at hl 0 rfl) ?_
  refine lv_iload_n hx hb dL_law_1010 rfl (lv_at hl 3 rfl) ?_
  refine lv_iconst (v := 1) hx hb dL_law_1011 (by decide) ?_
  refine lv_iadd hx hb dL_law_1012 ?_
  refine va_sld hx hb hX hbl hbA hS (xin (k := 1) hi (by decide) hL) dL_law_1013 ?_
  rw [← ez1]
  refine lv_aload_n hx hb dL_law_1014 rfl (lv_at hl 0 rfl) ?_
  refine lv_iload_n hx hb dL_law_1015 rfl (lv_at hl 3 rfl) ?_
  refine lv_iconst (v := 2) hx hb dL_law_1016 (by decide) ?_
  refine lv_iadd hx hb dL_law_1017 ?_
  refine va_sld hx hb hX hbl hbA hS (xin (k := 2) hi (by decide) hL) dL_law_1018 ?_
  rw [← ez2]
  refine lv_aload_n hx hb dL_law_1019 rfl (lv_at hl 0 rfl) ?_
  refine lv_iload_n hx hb dL_law_1020 rfl (lv_at hl 3 rfl) ?_
  refine lv_iconst (v := 3) hx hb dL_law_1021 (by decide) ?_
  refine lv_iadd hx hb dL_law_1022 ?_
  refine va_sld hx hb hX hbl hbA hS (xin (k := 3) hi (by decide) hL) dL_law_1023 ?_
  rw [← ez3]
  refine kL (rV (rest := [.int r]) C (c_X12_sheet l D g b hJb NN Mm z1 z2 z3 r Mm' e2) ok_X12_sheet wd_1001 hQ 0 (aM_0 g b Mm) rfl ⟨rfl, rfl, Nat.le_of_ble_eq_true rfl, Nat.le_of_ble_eq_true rfl⟩ rfl hl.1 rfl (Nat.le_of_ble_eq_true rfl) dL_law_1024 ⟨Nat.le_of_ble_eq_true rfl, Nat.le_of_ble_eq_true rfl⟩) hS (aIn hb0) hP (dMC hdis) (fun H locs hQ hP hS => ?_)
  refine lv_icmp_eq (tgt := 1333) hx hb dL_law_1027 (by decide) (fun _ => ?_) (fun q => absurd rfl q)
  refine lv_iinc (v := nI (i + 6)) (lv' := [(3, .int (nI (i + 6))), (0, .ref b0), (1, .ref (a 0)), (2, .ref (b 0))]) hx hb dL_law_1333 hl (k := 3) rfl (by rw [← nI_add]; rfl) (by decide) rfl (fun ls hl => ?_)
  refine lv_goto (tgt := 18) hx hb dL_law_1336 (by decide) ?_
  exact ih Mc' Mm' H locs ls hM hP hQ hS (lv_sub hl [1, 2, 3, 0] rfl)
set_option maxHeartbeats 4000000 in
set_option maxRecDepth 100000 in
theorem law_22 {p : Program} {l : Launch} {e : Env} {s : State} {m : MethodId} {below : List Frame} {meth : Method} {c : Code} {b0 L : Nat} {xs : Nat → Int32} {D : va_G} {g : Nat → ClassId} {a b : Nat → Nat} (K : LwC p s m meth c b0 L xs D g a b) {i : Nat} (hi : i + 6 ≤ L) (ih : LwS p l e s m below meth c b0 D g a b (i + 6)) (Mc Mm : Mem) (H : Heap) (locs : List Loc) (ls : Array Slot) (hM : Sim Mc Mm) (hP : va_P D clL (wC g a Mc) H) (hQ : va_P D clL (wM g b Mm) H) (hS : va_S (aLw s) s.heap H locs) (hl : lv_has ls 4 [(0, .ref b0), (1, .ref (a 0)), (2, .ref (b 0)), (3, .int (nI i))]) : W p l e room_1 s m #[Value.ref b0] below meth c H locs 59 1562 (lw_Z below #[Value.ref b0] s) (F0 m 1032 ls []) := by
  obtain ⟨C, hX, hbl, hJa, hJb, hdis, ha, hb0, hL⟩ := K
  obtain ⟨hx, hb, hr, hml, hown, ht, hlocks, hK, hN⟩ := id C
  have hbA : ¬ aLw s b0 := Nat.not_le.mpr hbl
  obtain ⟨z1, ez1⟩ : ∃ y, y = (xs (nI i + 1).toNatClampNeg) := ⟨_, rfl⟩
  obtain ⟨r, Mc', Mm', e1, e2, hM⟩ := sim_lose hM z1
  refine lv_aload_n hx hb dL_law_1032 rfl (lv_at hl 1 rfl) ?_
  refine lv_aload_n hx hb dL_law_1033 rfl (lv_at hl 0 rfl) ?_
  refine lv_iload_n hx hb dL_law_1034 rfl (lv_at hl 3 rfl) ?_
  refine lv_iconst (v := 1) hx hb dL_law_1035 (by decide) ?_
  refine lv_iadd hx hb dL_law_1036 ?_
  refine va_sld hx hb hX hbl hbA hS (xin (k := 1) hi (by decide) hL) dL_law_1037 ?_
  rw [← ez1]
  refine kL (rV (rest := []) C (c_X11_lose l D g a hJa Mc z1 r Mc' e1) ok_X11_lose wd_630 hP 0 (aC_0 g a Mc) rfl ⟨rfl, rfl, Nat.le_of_ble_eq_true rfl, Nat.le_of_ble_eq_true rfl⟩ rfl hl.1 rfl (Nat.le_of_ble_eq_true rfl) dL_law_1038 ⟨Nat.le_of_ble_eq_true rfl, Nat.le_of_ble_eq_true rfl⟩) hS (aIn ha) hQ (dCM hdis) (fun H locs hP hQ hS => ?_)
  refine lv_aload_n hx hb dL_law_1041 rfl (lv_at hl 2 rfl) ?_
  refine lv_aload_n hx hb dL_law_1042 rfl (lv_at hl 0 rfl) ?_
  refine lv_iload_n hx hb dL_law_1043 rfl (lv_at hl 3 rfl) ?_
  refine lv_iconst (v := 1) hx hb dL_law_1044 (by decide) ?_
  refine lv_iadd hx hb dL_law_1045 ?_
  refine va_sld hx hb hX hbl hbA hS (xin (k := 1) hi (by decide) hL) dL_law_1046 ?_
  rw [← ez1]
  refine kL (rV (rest := [.int r]) C (c_X12_lose l D g b hJb Mm z1 r Mm' e2) ok_X12_lose wd_1005 hQ 0 (aM_0 g b Mm) rfl ⟨rfl, rfl, Nat.le_of_ble_eq_true rfl, Nat.le_of_ble_eq_true rfl⟩ rfl hl.1 rfl (Nat.le_of_ble_eq_true rfl) dL_law_1047 ⟨Nat.le_of_ble_eq_true rfl, Nat.le_of_ble_eq_true rfl⟩) hS (aIn hb0) hP (dMC hdis) (fun H locs hQ hP hS => ?_)
  refine lv_icmp_eq (tgt := 1333) hx hb dL_law_1050 (by decide) (fun _ => ?_) (fun q => absurd rfl q)
  refine lv_iinc (v := nI (i + 6)) (lv' := [(3, .int (nI (i + 6))), (0, .ref b0), (1, .ref (a 0)), (2, .ref (b 0))]) hx hb dL_law_1333 hl (k := 3) rfl (by rw [← nI_add]; rfl) (by decide) rfl (fun ls hl => ?_)
  refine lv_goto (tgt := 18) hx hb dL_law_1336 (by decide) ?_
  exact ih Mc' Mm' H locs ls hM hP hQ hS (lv_sub hl [1, 2, 3, 0] rfl)
set_option maxHeartbeats 4000000 in
set_option maxRecDepth 100000 in
theorem law_23 {p : Program} {l : Launch} {e : Env} {s : State} {m : MethodId} {below : List Frame} {meth : Method} {c : Code} {b0 L : Nat} {xs : Nat → Int32} {D : va_G} {g : Nat → ClassId} {a b : Nat → Nat} (K : LwC p s m meth c b0 L xs D g a b) {i : Nat} (hi : i + 6 ≤ L) (ih : LwS p l e s m below meth c b0 D g a b (i + 6)) (Mc Mm : Mem) (H : Heap) (locs : List Loc) (ls : Array Slot) (hM : Sim Mc Mm) (hP : va_P D clL (wC g a Mc) H) (hQ : va_P D clL (wM g b Mm) H) (hS : va_S (aLw s) s.heap H locs) (hl : lv_has ls 4 [(0, .ref b0), (1, .ref (a 0)), (2, .ref (b 0)), (3, .int (nI i))]) : W p l e room_1 s m #[Value.ref b0] below meth c H locs 59 1562 (lw_Z below #[Value.ref b0] s) (F0 m 1055 ls []) := by
  obtain ⟨C, hX, hbl, hJa, hJb, hdis, ha, hb0, hL⟩ := K
  obtain ⟨hx, hb, hr, hml, hown, ht, hlocks, hK, hN⟩ := id C
  have hbA : ¬ aLw s b0 := Nat.not_le.mpr hbl
  obtain ⟨z1, ez1⟩ : ∃ y, y = (xs (nI i + 1).toNatClampNeg) := ⟨_, rfl⟩
  obtain ⟨z2, ez2⟩ : ∃ y, y = (xs (nI i + 2).toNatClampNeg) := ⟨_, rfl⟩
  obtain ⟨z3, ez3⟩ : ∃ y, y = (xs (nI i + 3).toNatClampNeg) := ⟨_, rfl⟩
  obtain ⟨r, Mc', Mm', e1, e2, hM⟩ := sim_put hM z1 z2 z3
  refine lv_aload_n hx hb dL_law_1055 rfl (lv_at hl 1 rfl) ?_
  refine lv_aload_n hx hb dL_law_1056 rfl (lv_at hl 0 rfl) ?_
  refine lv_iload_n hx hb dL_law_1057 rfl (lv_at hl 3 rfl) ?_
  refine lv_iconst (v := 1) hx hb dL_law_1058 (by decide) ?_
  refine lv_iadd hx hb dL_law_1059 ?_
  refine va_sld hx hb hX hbl hbA hS (xin (k := 1) hi (by decide) hL) dL_law_1060 ?_
  rw [← ez1]
  refine lv_aload_n hx hb dL_law_1061 rfl (lv_at hl 0 rfl) ?_
  refine lv_iload_n hx hb dL_law_1062 rfl (lv_at hl 3 rfl) ?_
  refine lv_iconst (v := 2) hx hb dL_law_1063 (by decide) ?_
  refine lv_iadd hx hb dL_law_1064 ?_
  refine va_sld hx hb hX hbl hbA hS (xin (k := 2) hi (by decide) hL) dL_law_1065 ?_
  rw [← ez2]
  refine lv_aload_n hx hb dL_law_1066 rfl (lv_at hl 0 rfl) ?_
  refine lv_iload_n hx hb dL_law_1067 rfl (lv_at hl 3 rfl) ?_
  refine lv_iconst (v := 3) hx hb dL_law_1068 (by decide) ?_
  refine lv_iadd hx hb dL_law_1069 ?_
  refine va_sld hx hb hX hbl hbA hS (xin (k := 3) hi (by decide) hL) dL_law_1070 ?_
  rw [← ez3]
  refine kL (rV (rest := []) C (c_X11_put l D g a hJa Mc z1 z2 z3 r Mc' e1) ok_X11_put wd_638 hP 0 (aC_0 g a Mc) rfl ⟨rfl, rfl, Nat.le_of_ble_eq_true rfl, Nat.le_of_ble_eq_true rfl⟩ rfl hl.1 rfl (Nat.le_of_ble_eq_true rfl) dL_law_1071 ⟨Nat.le_of_ble_eq_true rfl, Nat.le_of_ble_eq_true rfl⟩) hS (aIn ha) hQ (dCM hdis) (fun H locs hP hQ hS => ?_)
  refine lv_aload_n hx hb dL_law_1074 rfl (lv_at hl 2 rfl) ?_
  refine lv_aload_n hx hb dL_law_1075 rfl (lv_at hl 0 rfl) ?_
  refine lv_iload_n hx hb dL_law_1076 rfl (lv_at hl 3 rfl) ?_
  refine lv_iconst (v := 1) hx hb dL_law_1077 (by decide) ?_
  refine lv_iadd hx hb dL_law_1078 ?_
  refine va_sld hx hb hX hbl hbA hS (xin (k := 1) hi (by decide) hL) dL_law_1079 ?_
  rw [← ez1]
  refine lv_aload_n hx hb dL_law_1080 rfl (lv_at hl 0 rfl) ?_
  refine lv_iload_n hx hb dL_law_1081 rfl (lv_at hl 3 rfl) ?_
  refine lv_iconst (v := 2) hx hb dL_law_1082 (by decide) ?_
  refine lv_iadd hx hb dL_law_1083 ?_
  refine va_sld hx hb hX hbl hbA hS (xin (k := 2) hi (by decide) hL) dL_law_1084 ?_
  rw [← ez2]
  refine lv_aload_n hx hb dL_law_1085 rfl (lv_at hl 0 rfl) ?_
  refine lv_iload_n hx hb dL_law_1086 rfl (lv_at hl 3 rfl) ?_
  refine lv_iconst (v := 3) hx hb dL_law_1087 (by decide) ?_
  refine lv_iadd hx hb dL_law_1088 ?_
  refine va_sld hx hb hX hbl hbA hS (xin (k := 3) hi (by decide) hL) dL_law_1089 ?_
  rw [← ez3]
  refine kL (rV (rest := [.int r]) C (c_X12_put l D g b hJb Mm z1 z2 z3 r Mm' e2) ok_X12_put wd_1009 hQ 0 (aM_0 g b Mm) rfl ⟨rfl, rfl, Nat.le_of_ble_eq_true rfl, Nat.le_of_ble_eq_true rfl⟩ rfl hl.1 rfl (Nat.le_of_ble_eq_true rfl) dL_law_1090 ⟨Nat.le_of_ble_eq_true rfl, Nat.le_of_ble_eq_true rfl⟩) hS (aIn hb0) hP (dMC hdis) (fun H locs hQ hP hS => ?_)
  refine lv_icmp_eq (tgt := 1333) hx hb dL_law_1093 (by decide) (fun _ => ?_) (fun q => absurd rfl q)
  refine lv_iinc (v := nI (i + 6)) (lv' := [(3, .int (nI (i + 6))), (0, .ref b0), (1, .ref (a 0)), (2, .ref (b 0))]) hx hb dL_law_1333 hl (k := 3) rfl (by rw [← nI_add]; rfl) (by decide) rfl (fun ls hl => ?_)
  refine lv_goto (tgt := 18) hx hb dL_law_1336 (by decide) ?_
  exact ih Mc' Mm' H locs ls hM hP hQ hS (lv_sub hl [1, 2, 3, 0] rfl)
set_option maxHeartbeats 4000000 in
set_option maxRecDepth 100000 in
theorem law_24 {p : Program} {l : Launch} {e : Env} {s : State} {m : MethodId} {below : List Frame} {meth : Method} {c : Code} {b0 L : Nat} {xs : Nat → Int32} {D : va_G} {g : Nat → ClassId} {a b : Nat → Nat} (K : LwC p s m meth c b0 L xs D g a b) {i : Nat} (hi : i + 6 ≤ L) (ih : LwS p l e s m below meth c b0 D g a b (i + 6)) (Mc Mm : Mem) (H : Heap) (locs : List Loc) (ls : Array Slot) (hM : Sim Mc Mm) (hP : va_P D clL (wC g a Mc) H) (hQ : va_P D clL (wM g b Mm) H) (hS : va_S (aLw s) s.heap H locs) (hl : lv_has ls 4 [(0, .ref b0), (1, .ref (a 0)), (2, .ref (b 0)), (3, .int (nI i))]) : W p l e room_1 s m #[Value.ref b0] below meth c H locs 59 1562 (lw_Z below #[Value.ref b0] s) (F0 m 1098 ls []) := by
  obtain ⟨C, hX, hbl, hJa, hJb, hdis, ha, hb0, hL⟩ := K
  obtain ⟨hx, hb, hr, hml, hown, ht, hlocks, hK, hN⟩ := id C
  have hbA : ¬ aLw s b0 := Nat.not_le.mpr hbl
  obtain ⟨z1, ez1⟩ : ∃ y, y = (xs (nI i + 1).toNatClampNeg) := ⟨_, rfl⟩
  obtain ⟨z2, ez2⟩ : ∃ y, y = (xs (nI i + 2).toNatClampNeg) := ⟨_, rfl⟩
  obtain ⟨z3, ez3⟩ : ∃ y, y = (xs (nI i + 3).toNatClampNeg) := ⟨_, rfl⟩
  obtain ⟨r, Mc', Mm', e1, e2, hM⟩ := sim_cell hM z1 z2 z3
  refine lv_aload_n hx hb dL_law_1098 rfl (lv_at hl 1 rfl) ?_
  refine lv_aload_n hx hb dL_law_1099 rfl (lv_at hl 0 rfl) ?_
  refine lv_iload_n hx hb dL_law_1100 rfl (lv_at hl 3 rfl) ?_
  refine lv_iconst (v := 1) hx hb dL_law_1101 (by decide) ?_
  refine lv_iadd hx hb dL_law_1102 ?_
  refine va_sld hx hb hX hbl hbA hS (xin (k := 1) hi (by decide) hL) dL_law_1103 ?_
  rw [← ez1]
  refine lv_aload_n hx hb dL_law_1104 rfl (lv_at hl 0 rfl) ?_
  refine lv_iload_n hx hb dL_law_1105 rfl (lv_at hl 3 rfl) ?_
  refine lv_iconst (v := 2) hx hb dL_law_1106 (by decide) ?_
  refine lv_iadd hx hb dL_law_1107 ?_
  refine va_sld hx hb hX hbl hbA hS (xin (k := 2) hi (by decide) hL) dL_law_1108 ?_
  rw [← ez2]
  refine lv_aload_n hx hb dL_law_1109 rfl (lv_at hl 0 rfl) ?_
  refine lv_iload_n hx hb dL_law_1110 rfl (lv_at hl 3 rfl) ?_
  refine lv_iconst (v := 3) hx hb dL_law_1111 (by decide) ?_
  refine lv_iadd hx hb dL_law_1112 ?_
  refine va_sld hx hb hX hbl hbA hS (xin (k := 3) hi (by decide) hL) dL_law_1113 ?_
  rw [← ez3]
  refine kL (rV (rest := []) C (c_X11_cell l D g a hJa Mc z1 z2 z3 r Mc' e1) ok_X11_cell wd_651 hP 0 (aC_0 g a Mc) rfl ⟨rfl, rfl, Nat.le_of_ble_eq_true rfl, Nat.le_of_ble_eq_true rfl⟩ rfl hl.1 rfl (Nat.le_of_ble_eq_true rfl) dL_law_1114 ⟨Nat.le_of_ble_eq_true rfl, Nat.le_of_ble_eq_true rfl⟩) hS (aIn ha) hQ (dCM hdis) (fun H locs hP hQ hS => ?_)
  refine lv_aload_n hx hb dL_law_1117 rfl (lv_at hl 2 rfl) ?_
  refine lv_aload_n hx hb dL_law_1118 rfl (lv_at hl 0 rfl) ?_
  refine lv_iload_n hx hb dL_law_1119 rfl (lv_at hl 3 rfl) ?_
  refine lv_iconst (v := 1) hx hb dL_law_1120 (by decide) ?_
  refine lv_iadd hx hb dL_law_1121 ?_
  refine va_sld hx hb hX hbl hbA hS (xin (k := 1) hi (by decide) hL) dL_law_1122 ?_
  rw [← ez1]
  refine lv_aload_n hx hb dL_law_1123 rfl (lv_at hl 0 rfl) ?_
  refine lv_iload_n hx hb dL_law_1124 rfl (lv_at hl 3 rfl) ?_
  refine lv_iconst (v := 2) hx hb dL_law_1125 (by decide) ?_
  refine lv_iadd hx hb dL_law_1126 ?_
  refine va_sld hx hb hX hbl hbA hS (xin (k := 2) hi (by decide) hL) dL_law_1127 ?_
  rw [← ez2]
  refine lv_aload_n hx hb dL_law_1128 rfl (lv_at hl 0 rfl) ?_
  refine lv_iload_n hx hb dL_law_1129 rfl (lv_at hl 3 rfl) ?_
  refine lv_iconst (v := 3) hx hb dL_law_1130 (by decide) ?_
  refine lv_iadd hx hb dL_law_1131 ?_
  refine va_sld hx hb hX hbl hbA hS (xin (k := 3) hi (by decide) hL) dL_law_1132 ?_
  rw [← ez3]
  refine kL (rV (rest := [.long r]) C (c_X12_cell l D g b hJb Mm z1 z2 z3 r Mm' e2) ok_X12_cell wd_1013 hQ 0 (aM_0 g b Mm) rfl ⟨rfl, rfl, Nat.le_of_ble_eq_true rfl, Nat.le_of_ble_eq_true rfl⟩ rfl hl.1 rfl (Nat.le_of_ble_eq_true rfl) dL_law_1133 ⟨Nat.le_of_ble_eq_true rfl, Nat.le_of_ble_eq_true rfl⟩) hS (aIn hb0) hP (dMC hdis) (fun H locs hQ hP hS => ?_)
  refine W.lcmp hx hb dL_law_1136 ?_
  rw [lgc0]
  refine lv_if_eq (tgt := 1333) hx hb dL_law_1137 (by decide) (fun _ => ?_) (fun q => absurd rfl q)
  refine lv_iinc (v := nI (i + 6)) (lv' := [(3, .int (nI (i + 6))), (0, .ref b0), (1, .ref (a 0)), (2, .ref (b 0))]) hx hb dL_law_1333 hl (k := 3) rfl (by rw [← nI_add]; rfl) (by decide) rfl (fun ls hl => ?_)
  refine lv_goto (tgt := 18) hx hb dL_law_1336 (by decide) ?_
  exact ih Mc' Mm' H locs ls hM hP hQ hS (lv_sub hl [1, 2, 3, 0] rfl)
set_option maxHeartbeats 4000000 in
set_option maxRecDepth 100000 in
theorem law_25 {p : Program} {l : Launch} {e : Env} {s : State} {m : MethodId} {below : List Frame} {meth : Method} {c : Code} {b0 L : Nat} {xs : Nat → Int32} {D : va_G} {g : Nat → ClassId} {a b : Nat → Nat} (K : LwC p s m meth c b0 L xs D g a b) {i : Nat} (hi : i + 6 ≤ L) (ih : LwS p l e s m below meth c b0 D g a b (i + 6)) (Mc Mm : Mem) (H : Heap) (locs : List Loc) (ls : Array Slot) (hM : Sim Mc Mm) (hP : va_P D clL (wC g a Mc) H) (hQ : va_P D clL (wM g b Mm) H) (hS : va_S (aLw s) s.heap H locs) (hl : lv_has ls 4 [(0, .ref b0), (1, .ref (a 0)), (2, .ref (b 0)), (3, .int (nI i))]) : W p l e room_1 s m #[Value.ref b0] below meth c H locs 59 1562 (lw_Z below #[Value.ref b0] s) (F0 m 1142 ls []) := by
  obtain ⟨C, hX, hbl, hJa, hJb, hdis, ha, hb0, hL⟩ := K
  obtain ⟨hx, hb, hr, hml, hown, ht, hlocks, hK, hN⟩ := id C
  have hbA : ¬ aLw s b0 := Nat.not_le.mpr hbl
  obtain ⟨z1, ez1⟩ : ∃ y, y = (xs (nI i + 1).toNatClampNeg) := ⟨_, rfl⟩
  obtain ⟨z2, ez2⟩ : ∃ y, y = (xs (nI i + 2).toNatClampNeg) := ⟨_, rfl⟩
  obtain ⟨z3, ez3⟩ : ∃ y, y = (xs (nI i + 3).toNatClampNeg) := ⟨_, rfl⟩
  obtain ⟨z4, ez4⟩ : ∃ y, y = (xs (nI i + 4).toNatClampNeg) := ⟨_, rfl⟩
  obtain ⟨z5, ez5⟩ : ∃ y, y = (xs (nI i + 5).toNatClampNeg) := ⟨_, rfl⟩
  obtain ⟨r, Mc', Mm', e1, e2, hM⟩ := sim_copy hM z1 z2 z3 z4 z5
  refine lv_aload_n hx hb dL_law_1142 rfl (lv_at hl 1 rfl) ?_
  refine lv_aload_n hx hb dL_law_1143 rfl (lv_at hl 0 rfl) ?_
  refine lv_iload_n hx hb dL_law_1144 rfl (lv_at hl 3 rfl) ?_
  refine lv_iconst (v := 1) hx hb dL_law_1145 (by decide) ?_
  refine lv_iadd hx hb dL_law_1146 ?_
  refine va_sld hx hb hX hbl hbA hS (xin (k := 1) hi (by decide) hL) dL_law_1147 ?_
  rw [← ez1]
  refine lv_aload_n hx hb dL_law_1148 rfl (lv_at hl 0 rfl) ?_
  refine lv_iload_n hx hb dL_law_1149 rfl (lv_at hl 3 rfl) ?_
  refine lv_iconst (v := 2) hx hb dL_law_1150 (by decide) ?_
  refine lv_iadd hx hb dL_law_1151 ?_
  refine va_sld hx hb hX hbl hbA hS (xin (k := 2) hi (by decide) hL) dL_law_1152 ?_
  rw [← ez2]
  refine lv_aload_n hx hb dL_law_1153 rfl (lv_at hl 0 rfl) ?_
  refine lv_iload_n hx hb dL_law_1154 rfl (lv_at hl 3 rfl) ?_
  refine lv_iconst (v := 3) hx hb dL_law_1155 (by decide) ?_
  refine lv_iadd hx hb dL_law_1156 ?_
  refine va_sld hx hb hX hbl hbA hS (xin (k := 3) hi (by decide) hL) dL_law_1157 ?_
  rw [← ez3]
  refine lv_aload_n hx hb dL_law_1158 rfl (lv_at hl 0 rfl) ?_
  refine lv_iload_n hx hb dL_law_1159 rfl (lv_at hl 3 rfl) ?_
  refine lv_iconst (v := 4) hx hb dL_law_1160 (by decide) ?_
  refine lv_iadd hx hb dL_law_1161 ?_
  refine va_sld hx hb hX hbl hbA hS (xin (k := 4) hi (by decide) hL) dL_law_1162 ?_
  rw [← ez4]
  refine lv_aload_n hx hb dL_law_1163 rfl (lv_at hl 0 rfl) ?_
  refine lv_iload_n hx hb dL_law_1164 rfl (lv_at hl 3 rfl) ?_
  refine lv_iconst (v := 5) hx hb dL_law_1165 (by decide) ?_
  refine lv_iadd hx hb dL_law_1166 ?_
  refine va_sld hx hb hX hbl hbA hS (xin (k := 5) hi (by decide) hL) dL_law_1167 ?_
  rw [← ez5]
  refine kL (rV (rest := []) C (c_X11_copy l D g a hJa Mc z1 z2 z3 z4 z5 r Mc' e1) ok_X11_copy wd_656 hP 0 (aC_0 g a Mc) rfl ⟨rfl, rfl, Nat.le_of_ble_eq_true rfl, Nat.le_of_ble_eq_true rfl⟩ rfl hl.1 rfl (Nat.le_of_ble_eq_true rfl) dL_law_1168 ⟨Nat.le_of_ble_eq_true rfl, Nat.le_of_ble_eq_true rfl⟩) hS (aIn ha) hQ (dCM hdis) (fun H locs hP hQ hS => ?_)
  refine lv_aload_n hx hb dL_law_1171 rfl (lv_at hl 2 rfl) ?_
  refine lv_aload_n hx hb dL_law_1172 rfl (lv_at hl 0 rfl) ?_
  refine lv_iload_n hx hb dL_law_1173 rfl (lv_at hl 3 rfl) ?_
  refine lv_iconst (v := 1) hx hb dL_law_1174 (by decide) ?_
  refine lv_iadd hx hb dL_law_1175 ?_
  refine va_sld hx hb hX hbl hbA hS (xin (k := 1) hi (by decide) hL) dL_law_1176 ?_
  rw [← ez1]
  refine lv_aload_n hx hb dL_law_1177 rfl (lv_at hl 0 rfl) ?_
  refine lv_iload_n hx hb dL_law_1178 rfl (lv_at hl 3 rfl) ?_
  refine lv_iconst (v := 2) hx hb dL_law_1179 (by decide) ?_
  refine lv_iadd hx hb dL_law_1180 ?_
  refine va_sld hx hb hX hbl hbA hS (xin (k := 2) hi (by decide) hL) dL_law_1181 ?_
  rw [← ez2]
  refine lv_aload_n hx hb dL_law_1182 rfl (lv_at hl 0 rfl) ?_
  refine lv_iload_n hx hb dL_law_1183 rfl (lv_at hl 3 rfl) ?_
  refine lv_iconst (v := 3) hx hb dL_law_1184 (by decide) ?_
  refine lv_iadd hx hb dL_law_1185 ?_
  refine va_sld hx hb hX hbl hbA hS (xin (k := 3) hi (by decide) hL) dL_law_1186 ?_
  rw [← ez3]
  refine lv_aload_n hx hb dL_law_1187 rfl (lv_at hl 0 rfl) ?_
  refine lv_iload_n hx hb dL_law_1188 rfl (lv_at hl 3 rfl) ?_
  refine lv_iconst (v := 4) hx hb dL_law_1189 (by decide) ?_
  refine lv_iadd hx hb dL_law_1190 ?_
  refine va_sld hx hb hX hbl hbA hS (xin (k := 4) hi (by decide) hL) dL_law_1191 ?_
  rw [← ez4]
  refine lv_aload_n hx hb dL_law_1192 rfl (lv_at hl 0 rfl) ?_
  refine lv_iload_n hx hb dL_law_1193 rfl (lv_at hl 3 rfl) ?_
  refine lv_iconst (v := 5) hx hb dL_law_1194 (by decide) ?_
  refine lv_iadd hx hb dL_law_1195 ?_
  refine va_sld hx hb hX hbl hbA hS (xin (k := 5) hi (by decide) hL) dL_law_1196 ?_
  rw [← ez5]
  refine kL (rV (rest := [.int r]) C (c_X12_copy l D g b hJb NN Mm z1 z2 z3 z4 z5 r Mm' e2) ok_X12_copy wd_1022 hQ 0 (aM_0 g b Mm) rfl ⟨rfl, rfl, Nat.le_of_ble_eq_true rfl, Nat.le_of_ble_eq_true rfl⟩ rfl hl.1 rfl (Nat.le_of_ble_eq_true rfl) dL_law_1197 ⟨Nat.le_of_ble_eq_true rfl, Nat.le_of_ble_eq_true rfl⟩) hS (aIn hb0) hP (dMC hdis) (fun H locs hQ hP hS => ?_)
  refine lv_icmp_eq (tgt := 1333) hx hb dL_law_1200 (by decide) (fun _ => ?_) (fun q => absurd rfl q)
  refine lv_iinc (v := nI (i + 6)) (lv' := [(3, .int (nI (i + 6))), (0, .ref b0), (1, .ref (a 0)), (2, .ref (b 0))]) hx hb dL_law_1333 hl (k := 3) rfl (by rw [← nI_add]; rfl) (by decide) rfl (fun ls hl => ?_)
  refine lv_goto (tgt := 18) hx hb dL_law_1336 (by decide) ?_
  exact ih Mc' Mm' H locs ls hM hP hQ hS (lv_sub hl [1, 2, 3, 0] rfl)
set_option maxHeartbeats 4000000 in
set_option maxRecDepth 100000 in
theorem law_26 {p : Program} {l : Launch} {e : Env} {s : State} {m : MethodId} {below : List Frame} {meth : Method} {c : Code} {b0 L : Nat} {xs : Nat → Int32} {D : va_G} {g : Nat → ClassId} {a b : Nat → Nat} (K : LwC p s m meth c b0 L xs D g a b) {i : Nat} (hi : i + 6 ≤ L) (ih : LwS p l e s m below meth c b0 D g a b (i + 6)) (Mc Mm : Mem) (H : Heap) (locs : List Loc) (ls : Array Slot) (hM : Sim Mc Mm) (hP : va_P D clL (wC g a Mc) H) (hQ : va_P D clL (wM g b Mm) H) (hS : va_S (aLw s) s.heap H locs) (hl : lv_has ls 4 [(0, .ref b0), (1, .ref (a 0)), (2, .ref (b 0)), (3, .int (nI i))]) : W p l e room_1 s m #[Value.ref b0] below meth c H locs 59 1562 (lw_Z below #[Value.ref b0] s) (F0 m 1205 ls []) := by
  obtain ⟨C, hX, hbl, hJa, hJb, hdis, ha, hb0, hL⟩ := K
  obtain ⟨hx, hb, hr, hml, hown, ht, hlocks, hK, hN⟩ := id C
  have hbA : ¬ aLw s b0 := Nat.not_le.mpr hbl
  obtain ⟨z1, ez1⟩ : ∃ y, y = (xs (nI i + 1).toNatClampNeg) := ⟨_, rfl⟩
  obtain ⟨r, Mc', Mm', e1, e2, hM⟩ := sim_tell hM z1
  refine lv_aload_n hx hb dL_law_1205 rfl (lv_at hl 1 rfl) ?_
  refine lv_aload_n hx hb dL_law_1206 rfl (lv_at hl 0 rfl) ?_
  refine lv_iload_n hx hb dL_law_1207 rfl (lv_at hl 3 rfl) ?_
  refine lv_iconst (v := 1) hx hb dL_law_1208 (by decide) ?_
  refine lv_iadd hx hb dL_law_1209 ?_
  refine va_sld hx hb hX hbl hbA hS (xin (k := 1) hi (by decide) hL) dL_law_1210 ?_
  rw [← ez1]
  refine kL (rV (rest := []) C (c_X11_tell l D g a hJa Mc z1 r Mc' e1) ok_X11_tell wd_663 hP 0 (aC_0 g a Mc) rfl ⟨rfl, rfl, Nat.le_of_ble_eq_true rfl, Nat.le_of_ble_eq_true rfl⟩ rfl hl.1 rfl (Nat.le_of_ble_eq_true rfl) dL_law_1211 ⟨Nat.le_of_ble_eq_true rfl, Nat.le_of_ble_eq_true rfl⟩) hS (aIn ha) hQ (dCM hdis) (fun H locs hP hQ hS => ?_)
  refine lv_aload_n hx hb dL_law_1214 rfl (lv_at hl 2 rfl) ?_
  refine lv_aload_n hx hb dL_law_1215 rfl (lv_at hl 0 rfl) ?_
  refine lv_iload_n hx hb dL_law_1216 rfl (lv_at hl 3 rfl) ?_
  refine lv_iconst (v := 1) hx hb dL_law_1217 (by decide) ?_
  refine lv_iadd hx hb dL_law_1218 ?_
  refine va_sld hx hb hX hbl hbA hS (xin (k := 1) hi (by decide) hL) dL_law_1219 ?_
  rw [← ez1]
  refine kL (rV (rest := [.int r]) C (c_X12_tell l D g b hJb Mm z1 r Mm' e2) ok_X12_tell wd_1026 hQ 0 (aM_0 g b Mm) rfl ⟨rfl, rfl, Nat.le_of_ble_eq_true rfl, Nat.le_of_ble_eq_true rfl⟩ rfl hl.1 rfl (Nat.le_of_ble_eq_true rfl) dL_law_1220 ⟨Nat.le_of_ble_eq_true rfl, Nat.le_of_ble_eq_true rfl⟩) hS (aIn hb0) hP (dMC hdis) (fun H locs hQ hP hS => ?_)
  refine lv_icmp_eq (tgt := 1333) hx hb dL_law_1223 (by decide) (fun _ => ?_) (fun q => absurd rfl q)
  refine lv_iinc (v := nI (i + 6)) (lv' := [(3, .int (nI (i + 6))), (0, .ref b0), (1, .ref (a 0)), (2, .ref (b 0))]) hx hb dL_law_1333 hl (k := 3) rfl (by rw [← nI_add]; rfl) (by decide) rfl (fun ls hl => ?_)
  refine lv_goto (tgt := 18) hx hb dL_law_1336 (by decide) ?_
  exact ih Mc' Mm' H locs ls hM hP hQ hS (lv_sub hl [1, 2, 3, 0] rfl)
set_option maxHeartbeats 4000000 in
set_option maxRecDepth 100000 in
theorem law_27 {p : Program} {l : Launch} {e : Env} {s : State} {m : MethodId} {below : List Frame} {meth : Method} {c : Code} {b0 L : Nat} {xs : Nat → Int32} {D : va_G} {g : Nat → ClassId} {a b : Nat → Nat} (K : LwC p s m meth c b0 L xs D g a b) {i : Nat} (hi : i + 6 ≤ L) (ih : LwS p l e s m below meth c b0 D g a b (i + 6)) (Mc Mm : Mem) (H : Heap) (locs : List Loc) (ls : Array Slot) (hM : Sim Mc Mm) (hP : va_P D clL (wC g a Mc) H) (hQ : va_P D clL (wM g b Mm) H) (hS : va_S (aLw s) s.heap H locs) (hl : lv_has ls 4 [(0, .ref b0), (1, .ref (a 0)), (2, .ref (b 0)), (3, .int (nI i))]) : W p l e room_1 s m #[Value.ref b0] below meth c H locs 59 1562 (lw_Z below #[Value.ref b0] s) (F0 m 1228 ls []) := by
  obtain ⟨C, hX, hbl, hJa, hJb, hdis, ha, hb0, hL⟩ := K
  obtain ⟨hx, hb, hr, hml, hown, ht, hlocks, hK, hN⟩ := id C
  have hbA : ¬ aLw s b0 := Nat.not_le.mpr hbl
  obtain ⟨z1, ez1⟩ : ∃ y, y = (xs (nI i + 1).toNatClampNeg) := ⟨_, rfl⟩
  obtain ⟨r, Mc', Mm', e1, e2, hM⟩ := sim_tread hM z1
  refine lv_aload_n hx hb dL_law_1228 rfl (lv_at hl 1 rfl) ?_
  refine lv_aload_n hx hb dL_law_1229 rfl (lv_at hl 0 rfl) ?_
  refine lv_iload_n hx hb dL_law_1230 rfl (lv_at hl 3 rfl) ?_
  refine lv_iconst (v := 1) hx hb dL_law_1231 (by decide) ?_
  refine lv_iadd hx hb dL_law_1232 ?_
  refine va_sld hx hb hX hbl hbA hS (xin (k := 1) hi (by decide) hL) dL_law_1233 ?_
  rw [← ez1]
  refine kL (rV (rest := []) C (c_X11_tread l D g a hJa Mc z1 r Mc' e1) ok_X11_tread wd_697 hP 0 (aC_0 g a Mc) rfl ⟨rfl, rfl, Nat.le_of_ble_eq_true rfl, Nat.le_of_ble_eq_true rfl⟩ rfl hl.1 rfl (Nat.le_of_ble_eq_true rfl) dL_law_1234 ⟨Nat.le_of_ble_eq_true rfl, Nat.le_of_ble_eq_true rfl⟩) hS (aIn ha) hQ (dCM hdis) (fun H locs hP hQ hS => ?_)
  refine lv_aload_n hx hb dL_law_1237 rfl (lv_at hl 2 rfl) ?_
  refine lv_aload_n hx hb dL_law_1238 rfl (lv_at hl 0 rfl) ?_
  refine lv_iload_n hx hb dL_law_1239 rfl (lv_at hl 3 rfl) ?_
  refine lv_iconst (v := 1) hx hb dL_law_1240 (by decide) ?_
  refine lv_iadd hx hb dL_law_1241 ?_
  refine va_sld hx hb hX hbl hbA hS (xin (k := 1) hi (by decide) hL) dL_law_1242 ?_
  rw [← ez1]
  refine kL (rV (rest := [.int r]) C (c_X12_tread l D g b hJb Mm z1 r Mm' e2) ok_X12_tread wd_1034 hQ 0 (aM_0 g b Mm) rfl ⟨rfl, rfl, Nat.le_of_ble_eq_true rfl, Nat.le_of_ble_eq_true rfl⟩ rfl hl.1 rfl (Nat.le_of_ble_eq_true rfl) dL_law_1243 ⟨Nat.le_of_ble_eq_true rfl, Nat.le_of_ble_eq_true rfl⟩) hS (aIn hb0) hP (dMC hdis) (fun H locs hQ hP hS => ?_)
  refine lv_icmp_eq (tgt := 1333) hx hb dL_law_1246 (by decide) (fun _ => ?_) (fun q => absurd rfl q)
  refine lv_iinc (v := nI (i + 6)) (lv' := [(3, .int (nI (i + 6))), (0, .ref b0), (1, .ref (a 0)), (2, .ref (b 0))]) hx hb dL_law_1333 hl (k := 3) rfl (by rw [← nI_add]; rfl) (by decide) rfl (fun ls hl => ?_)
  refine lv_goto (tgt := 18) hx hb dL_law_1336 (by decide) ?_
  exact ih Mc' Mm' H locs ls hM hP hQ hS (lv_sub hl [1, 2, 3, 0] rfl)
set_option maxHeartbeats 4000000 in
set_option maxRecDepth 100000 in
theorem law_28 {p : Program} {l : Launch} {e : Env} {s : State} {m : MethodId} {below : List Frame} {meth : Method} {c : Code} {b0 L : Nat} {xs : Nat → Int32} {D : va_G} {g : Nat → ClassId} {a b : Nat → Nat} (K : LwC p s m meth c b0 L xs D g a b) {i : Nat} (hi : i + 6 ≤ L) (ih : LwS p l e s m below meth c b0 D g a b (i + 6)) (Mc Mm : Mem) (H : Heap) (locs : List Loc) (ls : Array Slot) (hM : Sim Mc Mm) (hP : va_P D clL (wC g a Mc) H) (hQ : va_P D clL (wM g b Mm) H) (hS : va_S (aLw s) s.heap H locs) (hl : lv_has ls 4 [(0, .ref b0), (1, .ref (a 0)), (2, .ref (b 0)), (3, .int (nI i))]) : W p l e room_1 s m #[Value.ref b0] below meth c H locs 59 1562 (lw_Z below #[Value.ref b0] s) (F0 m 1251 ls []) := by
  obtain ⟨C, hX, hbl, hJa, hJb, hdis, ha, hb0, hL⟩ := K
  obtain ⟨hx, hb, hr, hml, hown, ht, hlocks, hK, hN⟩ := id C
  have hbA : ¬ aLw s b0 := Nat.not_le.mpr hbl
  obtain ⟨z1, ez1⟩ : ∃ y, y = (xs (nI i + 1).toNatClampNeg) := ⟨_, rfl⟩
  obtain ⟨z2, ez2⟩ : ∃ y, y = (xs (nI i + 2).toNatClampNeg) := ⟨_, rfl⟩
  obtain ⟨r, Mc', Mm', e1, e2, hM⟩ := sim_as hM z1 z2
  refine lv_aload_n hx hb dL_law_1251 rfl (lv_at hl 1 rfl) ?_
  refine lv_aload_n hx hb dL_law_1252 rfl (lv_at hl 0 rfl) ?_
  refine lv_iload_n hx hb dL_law_1253 rfl (lv_at hl 3 rfl) ?_
  refine lv_iconst (v := 1) hx hb dL_law_1254 (by decide) ?_
  refine lv_iadd hx hb dL_law_1255 ?_
  refine va_sld hx hb hX hbl hbA hS (xin (k := 1) hi (by decide) hL) dL_law_1256 ?_
  rw [← ez1]
  refine lv_aload_n hx hb dL_law_1257 rfl (lv_at hl 0 rfl) ?_
  refine lv_iload_n hx hb dL_law_1258 rfl (lv_at hl 3 rfl) ?_
  refine lv_iconst (v := 2) hx hb dL_law_1259 (by decide) ?_
  refine lv_iadd hx hb dL_law_1260 ?_
  refine va_sld hx hb hX hbl hbA hS (xin (k := 2) hi (by decide) hL) dL_law_1261 ?_
  rw [← ez2]
  refine kL (rV (rest := []) C (c_X11_as l D g a hJa Mc z1 z2 r Mc' e1) ok_X11_as wd_710 hP 0 (aC_0 g a Mc) rfl ⟨rfl, rfl, Nat.le_of_ble_eq_true rfl, Nat.le_of_ble_eq_true rfl⟩ rfl hl.1 rfl (Nat.le_of_ble_eq_true rfl) dL_law_1262 ⟨Nat.le_of_ble_eq_true rfl, Nat.le_of_ble_eq_true rfl⟩) hS (aIn ha) hQ (dCM hdis) (fun H locs hP hQ hS => ?_)
  refine lv_aload_n hx hb dL_law_1265 rfl (lv_at hl 2 rfl) ?_
  refine lv_aload_n hx hb dL_law_1266 rfl (lv_at hl 0 rfl) ?_
  refine lv_iload_n hx hb dL_law_1267 rfl (lv_at hl 3 rfl) ?_
  refine lv_iconst (v := 1) hx hb dL_law_1268 (by decide) ?_
  refine lv_iadd hx hb dL_law_1269 ?_
  refine va_sld hx hb hX hbl hbA hS (xin (k := 1) hi (by decide) hL) dL_law_1270 ?_
  rw [← ez1]
  refine lv_aload_n hx hb dL_law_1271 rfl (lv_at hl 0 rfl) ?_
  refine lv_iload_n hx hb dL_law_1272 rfl (lv_at hl 3 rfl) ?_
  refine lv_iconst (v := 2) hx hb dL_law_1273 (by decide) ?_
  refine lv_iadd hx hb dL_law_1274 ?_
  refine va_sld hx hb hX hbl hbA hS (xin (k := 2) hi (by decide) hL) dL_law_1275 ?_
  rw [← ez2]
  refine kL (rV (rest := [.int r]) C (c_X12_as l D g b hJb Mm z1 z2 r Mm' e2) ok_X12_as wd_1038 hQ 0 (aM_0 g b Mm) rfl ⟨rfl, rfl, Nat.le_of_ble_eq_true rfl, Nat.le_of_ble_eq_true rfl⟩ rfl hl.1 rfl (Nat.le_of_ble_eq_true rfl) dL_law_1276 ⟨Nat.le_of_ble_eq_true rfl, Nat.le_of_ble_eq_true rfl⟩) hS (aIn hb0) hP (dMC hdis) (fun H locs hQ hP hS => ?_)
  refine lv_icmp_eq (tgt := 1333) hx hb dL_law_1279 (by decide) (fun _ => ?_) (fun q => absurd rfl q)
  refine lv_iinc (v := nI (i + 6)) (lv' := [(3, .int (nI (i + 6))), (0, .ref b0), (1, .ref (a 0)), (2, .ref (b 0))]) hx hb dL_law_1333 hl (k := 3) rfl (by rw [← nI_add]; rfl) (by decide) rfl (fun ls hl => ?_)
  refine lv_goto (tgt := 18) hx hb dL_law_1336 (by decide) ?_
  exact ih Mc' Mm' H locs ls hM hP hQ hS (lv_sub hl [1, 2, 3, 0] rfl)
set_option maxHeartbeats 4000000 in
set_option maxRecDepth 100000 in
theorem law_29 {p : Program} {l : Launch} {e : Env} {s : State} {m : MethodId} {below : List Frame} {meth : Method} {c : Code} {b0 L : Nat} {xs : Nat → Int32} {D : va_G} {g : Nat → ClassId} {a b : Nat → Nat} (K : LwC p s m meth c b0 L xs D g a b) {i : Nat} (hi : i + 6 ≤ L) (ih : LwS p l e s m below meth c b0 D g a b (i + 6)) (Mc Mm : Mem) (H : Heap) (locs : List Loc) (ls : Array Slot) (hM : Sim Mc Mm) (hP : va_P D clL (wC g a Mc) H) (hQ : va_P D clL (wM g b Mm) H) (hS : va_S (aLw s) s.heap H locs) (hl : lv_has ls 4 [(0, .ref b0), (1, .ref (a 0)), (2, .ref (b 0)), (3, .int (nI i))]) : W p l e room_1 s m #[Value.ref b0] below meth c H locs 59 1562 (lw_Z below #[Value.ref b0] s) (F0 m 1284 ls []) := by
  obtain ⟨C, hX, hbl, hJa, hJb, hdis, ha, hb0, hL⟩ := K
  obtain ⟨hx, hb, hr, hml, hown, ht, hlocks, hK, hN⟩ := id C
  have hbA : ¬ aLw s b0 := Nat.not_le.mpr hbl
  obtain ⟨r, e1, e2⟩ := sim_trace hM
  refine lv_aload_n hx hb dL_law_1284 rfl (lv_at hl 1 rfl) ?_
  refine kR (rV (rest := []) C (c_X11_trace l D g a Mc r e1) ok_X11_trace wd_714 hP 0 (aC_0 g a Mc) rfl ⟨rfl, rfl, Nat.le_of_ble_eq_true rfl, Nat.le_of_ble_eq_true rfl⟩ rfl hl.1 rfl (Nat.le_of_ble_eq_true rfl) dL_law_1285 ⟨Nat.le_of_ble_eq_true rfl, Nat.le_of_ble_eq_true rfl⟩) ?_
  refine lv_aload_n hx hb dL_law_1288 rfl (lv_at hl 2 rfl) ?_
  refine kR (rV (rest := [.int r]) C (c_X12_trace l D g b Mm r e2) ok_X12_trace wd_1042 hQ 0 (aM_0 g b Mm) rfl ⟨rfl, rfl, Nat.le_of_ble_eq_true rfl, Nat.le_of_ble_eq_true rfl⟩ rfl hl.1 rfl (Nat.le_of_ble_eq_true rfl) dL_law_1289 ⟨Nat.le_of_ble_eq_true rfl, Nat.le_of_ble_eq_true rfl⟩) ?_
  refine lv_icmp_eq (tgt := 1333) hx hb dL_law_1292 (by decide) (fun _ => ?_) (fun q => absurd rfl q)
  refine lv_iinc (v := nI (i + 6)) (lv' := [(3, .int (nI (i + 6))), (0, .ref b0), (1, .ref (a 0)), (2, .ref (b 0))]) hx hb dL_law_1333 hl (k := 3) rfl (by rw [← nI_add]; rfl) (by decide) rfl (fun ls hl => ?_)
  refine lv_goto (tgt := 18) hx hb dL_law_1336 (by decide) ?_
  exact ih Mc Mm H locs ls hM hP hQ hS (lv_sub hl [1, 2, 3, 0] rfl)
set_option maxHeartbeats 4000000 in
set_option maxRecDepth 100000 in
theorem law_30 {p : Program} {l : Launch} {e : Env} {s : State} {m : MethodId} {below : List Frame} {meth : Method} {c : Code} {b0 L : Nat} {xs : Nat → Int32} {D : va_G} {g : Nat → ClassId} {a b : Nat → Nat} (K : LwC p s m meth c b0 L xs D g a b) {i : Nat} (hi : i + 6 ≤ L) (ih : LwS p l e s m below meth c b0 D g a b (i + 6)) (Mc Mm : Mem) (H : Heap) (locs : List Loc) (ls : Array Slot) (hM : Sim Mc Mm) (hP : va_P D clL (wC g a Mc) H) (hQ : va_P D clL (wM g b Mm) H) (hS : va_S (aLw s) s.heap H locs) (hl : lv_has ls 4 [(0, .ref b0), (1, .ref (a 0)), (2, .ref (b 0)), (3, .int (nI i))]) : W p l e room_1 s m #[Value.ref b0] below meth c H locs 59 1562 (lw_Z below #[Value.ref b0] s) (F0 m 1297 ls []) := by
  obtain ⟨C, hX, hbl, hJa, hJb, hdis, ha, hb0, hL⟩ := K
  obtain ⟨hx, hb, hr, hml, hown, ht, hlocks, hK, hN⟩ := id C
  have hbA : ¬ aLw s b0 := Nat.not_le.mpr hbl
  obtain ⟨r, e1, e2⟩ := sim_fault hM
  refine lv_aload_n hx hb dL_law_1297 rfl (lv_at hl 1 rfl) ?_
  refine kR (rV (rest := []) C (c_X11_fault l D g a Mc r e1) ok_X11_fault wd_718 hP 0 (aC_0 g a Mc) rfl ⟨rfl, rfl, Nat.le_of_ble_eq_true rfl, Nat.le_of_ble_eq_true rfl⟩ rfl hl.1 rfl (Nat.le_of_ble_eq_true rfl) dL_law_1298 ⟨Nat.le_of_ble_eq_true rfl, Nat.le_of_ble_eq_true rfl⟩) ?_
  refine lv_aload_n hx hb dL_law_1301 rfl (lv_at hl 2 rfl) ?_
  refine kR (rV (rest := [.int r]) C (c_X12_fault l D g b Mm r e2) ok_X12_fault wd_1046 hQ 0 (aM_0 g b Mm) rfl ⟨rfl, rfl, Nat.le_of_ble_eq_true rfl, Nat.le_of_ble_eq_true rfl⟩ rfl hl.1 rfl (Nat.le_of_ble_eq_true rfl) dL_law_1302 ⟨Nat.le_of_ble_eq_true rfl, Nat.le_of_ble_eq_true rfl⟩) ?_
  refine lv_icmp_eq (tgt := 1333) hx hb dL_law_1305 (by decide) (fun _ => ?_) (fun q => absurd rfl q)
  refine lv_iinc (v := nI (i + 6)) (lv' := [(3, .int (nI (i + 6))), (0, .ref b0), (1, .ref (a 0)), (2, .ref (b 0))]) hx hb dL_law_1333 hl (k := 3) rfl (by rw [← nI_add]; rfl) (by decide) rfl (fun ls hl => ?_)
  refine lv_goto (tgt := 18) hx hb dL_law_1336 (by decide) ?_
  exact ih Mc Mm H locs ls hM hP hQ hS (lv_sub hl [1, 2, 3, 0] rfl)
set_option maxHeartbeats 4000000 in
set_option maxRecDepth 100000 in
theorem law_31 {p : Program} {l : Launch} {e : Env} {s : State} {m : MethodId} {below : List Frame} {meth : Method} {c : Code} {b0 L : Nat} {xs : Nat → Int32} {D : va_G} {g : Nat → ClassId} {a b : Nat → Nat} (K : LwC p s m meth c b0 L xs D g a b) {i : Nat} (hi : i + 6 ≤ L) (ih : LwS p l e s m below meth c b0 D g a b (i + 6)) (Mc Mm : Mem) (H : Heap) (locs : List Loc) (ls : Array Slot) (hM : Sim Mc Mm) (hP : va_P D clL (wC g a Mc) H) (hQ : va_P D clL (wM g b Mm) H) (hS : va_S (aLw s) s.heap H locs) (hl : lv_has ls 4 [(0, .ref b0), (1, .ref (a 0)), (2, .ref (b 0)), (3, .int (nI i))]) : W p l e room_1 s m #[Value.ref b0] below meth c H locs 59 1562 (lw_Z below #[Value.ref b0] s) (F0 m 1310 ls []) := by
  obtain ⟨C, hX, hbl, hJa, hJb, hdis, ha, hb0, hL⟩ := K
  obtain ⟨hx, hb, hr, hml, hown, ht, hlocks, hK, hN⟩ := id C
  have hbA : ¬ aLw s b0 := Nat.not_le.mpr hbl
  obtain ⟨z1, ez1⟩ : ∃ y, y = (xs (nI i + 1).toNatClampNeg) := ⟨_, rfl⟩
  obtain ⟨r, e1, e2⟩ := sim_many hM z1
  refine lv_aload_n hx hb dL_law_1310 rfl (lv_at hl 1 rfl) ?_
  refine lv_aload_n hx hb dL_law_1311 rfl (lv_at hl 0 rfl) ?_
  refine lv_iload_n hx hb dL_law_1312 rfl (lv_at hl 3 rfl) ?_
  refine lv_iconst (v := 1) hx hb dL_law_1313 (by decide) ?_
  refine lv_iadd hx hb dL_law_1314 ?_
  refine va_sld hx hb hX hbl hbA hS (xin (k := 1) hi (by decide) hL) dL_law_1315 ?_
  rw [← ez1]
  refine kR (rV (rest := []) C (c_X11_many l D g a Mc z1 r e1) ok_X11_many wd_722 hP 0 (aC_0 g a Mc) rfl ⟨rfl, rfl, Nat.le_of_ble_eq_true rfl, Nat.le_of_ble_eq_true rfl⟩ rfl hl.1 rfl (Nat.le_of_ble_eq_true rfl) dL_law_1316 ⟨Nat.le_of_ble_eq_true rfl, Nat.le_of_ble_eq_true rfl⟩) ?_
  refine lv_aload_n hx hb dL_law_1319 rfl (lv_at hl 2 rfl) ?_
  refine lv_aload_n hx hb dL_law_1320 rfl (lv_at hl 0 rfl) ?_
  refine lv_iload_n hx hb dL_law_1321 rfl (lv_at hl 3 rfl) ?_
  refine lv_iconst (v := 1) hx hb dL_law_1322 (by decide) ?_
  refine lv_iadd hx hb dL_law_1323 ?_
  refine va_sld hx hb hX hbl hbA hS (xin (k := 1) hi (by decide) hL) dL_law_1324 ?_
  rw [← ez1]
  refine kR (rV (rest := [.int r]) C (c_X12_many l D g b Mm z1 r e2) ok_X12_many wd_1050 hQ 0 (aM_0 g b Mm) rfl ⟨rfl, rfl, Nat.le_of_ble_eq_true rfl, Nat.le_of_ble_eq_true rfl⟩ rfl hl.1 rfl (Nat.le_of_ble_eq_true rfl) dL_law_1325 ⟨Nat.le_of_ble_eq_true rfl, Nat.le_of_ble_eq_true rfl⟩) ?_
  refine lv_icmp_eq (tgt := 1333) hx hb dL_law_1328 (by decide) (fun _ => ?_) (fun q => absurd rfl q)
  refine lv_iinc (v := nI (i + 6)) (lv' := [(3, .int (nI (i + 6))), (0, .ref b0), (1, .ref (a 0)), (2, .ref (b 0))]) hx hb dL_law_1333 hl (k := 3) rfl (by rw [← nI_add]; rfl) (by decide) rfl (fun ls hl => ?_)
  refine lv_goto (tgt := 18) hx hb dL_law_1336 (by decide) ?_
  exact ih Mc Mm H locs ls hM hP hQ hS (lv_sub hl [1, 2, 3, 0] rfl)
theorem lt32 {j : Nat} (h : j < 32) : j = 0 ∨ j = 1 ∨ j = 2 ∨ j = 3 ∨ j = 4 ∨ j = 5 ∨ j = 6 ∨ j = 7 ∨ j = 8 ∨ j = 9 ∨ j = 10 ∨ j = 11 ∨ j = 12 ∨ j = 13 ∨ j = 14 ∨ j = 15 ∨ j = 16 ∨ j = 17 ∨ j = 18 ∨ j = 19 ∨ j = 20 ∨ j = 21 ∨ j = 22 ∨ j = 23 ∨ j = 24 ∨ j = 25 ∨ j = 26 ∨ j = 27 ∨ j = 28 ∨ j = 29 ∨ j = 30 ∨ j = 31 := by omega
theorem lt_no {i L : Nat} (h : i + 6 ≤ L) (hL : L ≤ 3072) : ¬ (Int32.ofNat L - 6 < nI i) := by
  rw [show Int32.ofNat L - 6 = nI L - nI 6 from rfl, pk_sub (by omega)]
  exact nI_nlt (by omega) (by omega)
theorem lt_yes {i L : Nat} (h : ¬ i + 6 ≤ L) (hL : L ≤ 3072) (hi : i ≤ 4000) : Int32.ofNat L - 6 < nI i := by
  rcases Nat.lt_or_ge L 6 with h6 | h6
  · rw [show Int32.ofNat L - 6 = nI L - nI 6 from rfl]
    exact fa_ltx (pk_sneg (a := L) (b := 6) (by decide) h6) (nI_pos' (by omega))
  · rw [show Int32.ofNat L - 6 = nI L - nI 6 from rfl, pk_sub h6]
    exact nI_lt (by omega) (by omega)
set_option maxHeartbeats 4000000 in
set_option maxRecDepth 100000 in
theorem law_end {p : Program} {l : Launch} {e : Env} {s : State} {m : MethodId} {below : List Frame} {meth : Method} {c : Code} {b0 L : Nat} {xs : Nat → Int32} {D : va_G} {g : Nat → ClassId} {a b : Nat → Nat} (K : LwC p s m meth c b0 L xs D g a b) {i : Nat} (hi : ¬ i + 6 ≤ L) (hi4 : i ≤ 4000) (H : Heap) (locs : List Loc) (ls : Array Slot) (hS : va_S (aLw s) s.heap H locs) (hl : lv_has ls 4 [(0, .ref b0), (1, .ref (a 0)), (2, .ref (b 0)), (3, .int (nI i))]) : W p l e room_1 s m #[Value.ref b0] below meth c H locs 59 1562 (lw_Z below #[Value.ref b0] s) (F0 m 18 ls []) := by
  obtain ⟨C, hX, hbl, hJa, hJb, hdis, ha, hb0, hL⟩ := K
  obtain ⟨hx, hb, hr, hml, hown, ht, hlocks, hK, hN⟩ := id C
  have hbA : ¬ aLw s b0 := Nat.not_le.mpr hbl
  refine lv_iload_n hx hb dL_law_18 rfl (lv_at hl 3 rfl) ?_
  refine lv_aload_n hx hb dL_law_19 rfl (lv_at hl 0 rfl) ?_
  refine va_slen hx hb hX hbl hbA hS dL_law_20 ?_
  refine lv_bipush (v := 6) hx hb dL_law_21 (by decide) ?_
  refine lv_isub hx hb dL_law_23 ?_
  refine lv_icmp_gt (tgt := 1339) hx hb dL_law_24 (by decide) (fun _ => ?_) (fun q => absurd (lt_yes hi hL hi4) q)
  refine lv_iconst (v := 1) hx hb dL_law_1339 (by decide) ?_
  refine va_forget (fun q hq => hS.2.2 q hq) ?_
  exact lw_ret hx hb hr hlocks dL_law_1340
set_option maxHeartbeats 4000000 in
set_option maxRecDepth 100000 in
theorem law_loop {p : Program} {l : Launch} {e : Env} {s : State} {m : MethodId} {below : List Frame} {meth : Method} {c : Code} {b0 L : Nat} {xs : Nat → Int32} {D : va_G} {g : Nat → ClassId} {a b : Nat → Nat} (K : LwC p s m meth c b0 L xs D g a b) : ∀ (n i : Nat), L + 1 ≤ i + n → i ≤ 4000 → LwS p l e s m below meth c b0 D g a b i := by
  obtain ⟨C, hX, hbl, hJa, hJb, hdis, ha, hb0, hL⟩ := id K
  obtain ⟨hx, hb, hr, hml, hown, ht, hlocks, hK, hN⟩ := id C
  have hbA : ¬ aLw s b0 := Nat.not_le.mpr hbl
  intro n
  induction n with
  | zero =>
    intro i hin hi4 Mc Mm H locs ls hM hP hQ hS hl
    exact law_end K (by omega) hi4 H locs ls hS hl
  | succ n ih =>
    intro i hin hi4 Mc Mm H locs ls hM hP hQ hS hl
    by_cases hi : i + 6 ≤ L
    · have ih6 : LwS p l e s m below meth c b0 D g a b (i + 6) := ih (i + 6) (by omega) (by omega)
      refine lv_iload_n hx hb dL_law_18 rfl (lv_at hl 3 rfl) ?_
      refine lv_aload_n hx hb dL_law_19 rfl (lv_at hl 0 rfl) ?_
      refine va_slen hx hb hX hbl hbA hS dL_law_20 ?_
      refine lv_bipush (v := 6) hx hb dL_law_21 (by decide) ?_
      refine lv_isub hx hb dL_law_23 ?_
      refine lv_icmp_gt (tgt := 1339) hx hb dL_law_24 (by decide) (fun q => absurd q (lt_no hi hL)) (fun _ => ?_)
      refine lv_aload_n hx hb dL_law_27 rfl (lv_at hl 0 rfl) ?_
      refine lv_iload_n hx hb dL_law_28 rfl (lv_at hl 3 rfl) ?_
      refine va_sld hx hb hX hbl hbA hS (vp_in_nI (by omega) (by omega)) dL_law_29 ?_
      refine lv_bipush (v := 31) hx hb dL_law_30 (by decide) ?_
      refine lv_iand hx hb dL_law_32 ?_
      obtain ⟨j, hj, ej⟩ := pk_andE (xs (nI i).toNatClampNeg) (m := 31) 5 (by decide)
      rw [ej]
      have hj : j < 32 := hj
      have hti : (nI j).toInt = (j : Int) := nI_toInt (by omega)
      rcases lt32 hj with rfl | rfl | rfl | rfl | rfl | rfl | rfl | rfl | rfl | rfl | rfl | rfl | rfl | rfl | rfl | rfl | rfl | rfl | rfl | rfl | rfl | rfl | rfl | rfl | rfl | rfl | rfl | rfl | rfl | rfl | rfl | rfl
      · refine lv_tableIn (tgt := 176) (off := 143) hx hb dL_law_33 (by decide) (by decide) (by rfl) (by decide) ?_
        exact law_0 K hi ih6 Mc Mm H locs ls hM hP hQ hS hl
      · refine lv_tableIn (tgt := 229) (off := 196) hx hb dL_law_33 (by decide) (by decide) (by rfl) (by decide) ?_
        exact law_1 K hi ih6 Mc Mm H locs ls hM hP hQ hS hl
      · refine lv_tableIn (tgt := 262) (off := 229) hx hb dL_law_33 (by decide) (by decide) (by rfl) (by decide) ?_
        exact law_2 K hi ih6 Mc Mm H locs ls hM hP hQ hS hl
      · refine lv_tableIn (tgt := 305) (off := 272) hx hb dL_law_33 (by decide) (by decide) (by rfl) (by decide) ?_
        exact law_3 K hi ih6 Mc Mm H locs ls hM hP hQ hS hl
      · refine lv_tableIn (tgt := 338) (off := 305) hx hb dL_law_33 (by decide) (by decide) (by rfl) (by decide) ?_
        exact law_4 K hi ih6 Mc Mm H locs ls hM hP hQ hS hl
      · refine lv_tableIn (tgt := 371) (off := 338) hx hb dL_law_33 (by decide) (by decide) (by rfl) (by decide) ?_
        exact law_5 K hi ih6 Mc Mm H locs ls hM hP hQ hS hl
      · refine lv_tableIn (tgt := 404) (off := 371) hx hb dL_law_33 (by decide) (by decide) (by rfl) (by decide) ?_
        exact law_6 K hi ih6 Mc Mm H locs ls hM hP hQ hS hl
      · refine lv_tableIn (tgt := 467) (off := 434) hx hb dL_law_33 (by decide) (by decide) (by rfl) (by decide) ?_
        exact law_7 K hi ih6 Mc Mm H locs ls hM hP hQ hS hl
      · refine lv_tableIn (tgt := 530) (off := 497) hx hb dL_law_33 (by decide) (by decide) (by rfl) (by decide) ?_
        exact law_8 K hi ih6 Mc Mm H locs ls hM hP hQ hS hl
      · refine lv_tableIn (tgt := 573) (off := 540) hx hb dL_law_33 (by decide) (by decide) (by rfl) (by decide) ?_
        exact law_9 K hi ih6 Mc Mm H locs ls hM hP hQ hS hl
      · refine lv_tableIn (tgt := 606) (off := 573) hx hb dL_law_33 (by decide) (by decide) (by rfl) (by decide) ?_
        exact law_10 K hi ih6 Mc Mm H locs ls hM hP hQ hS hl
      · refine lv_tableIn (tgt := 639) (off := 606) hx hb dL_law_33 (by decide) (by decide) (by rfl) (by decide) ?_
        exact law_11 K hi ih6 Mc Mm H locs ls hM hP hQ hS hl
      · refine lv_tableIn (tgt := 672) (off := 639) hx hb dL_law_33 (by decide) (by decide) (by rfl) (by decide) ?_
        exact law_12 K hi ih6 Mc Mm H locs ls hM hP hQ hS hl
      · refine lv_tableIn (tgt := 715) (off := 682) hx hb dL_law_33 (by decide) (by decide) (by rfl) (by decide) ?_
        exact law_13 K hi ih6 Mc Mm H locs ls hM hP hQ hS hl
      · refine lv_tableIn (tgt := 748) (off := 715) hx hb dL_law_33 (by decide) (by decide) (by rfl) (by decide) ?_
        exact law_14 K hi ih6 Mc Mm H locs ls hM hP hQ hS hl
      · refine lv_tableIn (tgt := 771) (off := 738) hx hb dL_law_33 (by decide) (by decide) (by rfl) (by decide) ?_
        exact law_15 K hi ih6 Mc Mm H locs ls hM hP hQ hS hl
      · refine lv_tableIn (tgt := 814) (off := 781) hx hb dL_law_33 (by decide) (by decide) (by rfl) (by decide) ?_
        exact law_16 K hi ih6 Mc Mm H locs ls hM hP hQ hS hl
      · refine lv_tableIn (tgt := 857) (off := 824) hx hb dL_law_33 (by decide) (by decide) (by rfl) (by decide) ?_
        exact law_17 K hi ih6 Mc Mm H locs ls hM hP hQ hS hl
      · refine lv_tableIn (tgt := 900) (off := 867) hx hb dL_law_33 (by decide) (by decide) (by rfl) (by decide) ?_
        exact law_18 K hi ih6 Mc Mm H locs ls hM hP hQ hS hl
      · refine lv_tableIn (tgt := 943) (off := 910) hx hb dL_law_33 (by decide) (by decide) (by rfl) (by decide) ?_
        exact law_19 K hi ih6 Mc Mm H locs ls hM hP hQ hS hl
      · refine lv_tableIn (tgt := 966) (off := 933) hx hb dL_law_33 (by decide) (by decide) (by rfl) (by decide) ?_
        exact law_20 K hi ih6 Mc Mm H locs ls hM hP hQ hS hl
      · refine lv_tableIn (tgt := 989) (off := 956) hx hb dL_law_33 (by decide) (by decide) (by rfl) (by decide) ?_
        exact law_21 K hi ih6 Mc Mm H locs ls hM hP hQ hS hl
      · refine lv_tableIn (tgt := 1032) (off := 999) hx hb dL_law_33 (by decide) (by decide) (by rfl) (by decide) ?_
        exact law_22 K hi ih6 Mc Mm H locs ls hM hP hQ hS hl
      · refine lv_tableIn (tgt := 1055) (off := 1022) hx hb dL_law_33 (by decide) (by decide) (by rfl) (by decide) ?_
        exact law_23 K hi ih6 Mc Mm H locs ls hM hP hQ hS hl
      · refine lv_tableIn (tgt := 1098) (off := 1065) hx hb dL_law_33 (by decide) (by decide) (by rfl) (by decide) ?_
        exact law_24 K hi ih6 Mc Mm H locs ls hM hP hQ hS hl
      · refine lv_tableIn (tgt := 1142) (off := 1109) hx hb dL_law_33 (by decide) (by decide) (by rfl) (by decide) ?_
        exact law_25 K hi ih6 Mc Mm H locs ls hM hP hQ hS hl
      · refine lv_tableIn (tgt := 1205) (off := 1172) hx hb dL_law_33 (by decide) (by decide) (by rfl) (by decide) ?_
        exact law_26 K hi ih6 Mc Mm H locs ls hM hP hQ hS hl
      · refine lv_tableIn (tgt := 1228) (off := 1195) hx hb dL_law_33 (by decide) (by decide) (by rfl) (by decide) ?_
        exact law_27 K hi ih6 Mc Mm H locs ls hM hP hQ hS hl
      · refine lv_tableIn (tgt := 1251) (off := 1218) hx hb dL_law_33 (by decide) (by decide) (by rfl) (by decide) ?_
        exact law_28 K hi ih6 Mc Mm H locs ls hM hP hQ hS hl
      · refine lv_tableIn (tgt := 1284) (off := 1251) hx hb dL_law_33 (by decide) (by decide) (by rfl) (by decide) ?_
        exact law_29 K hi ih6 Mc Mm H locs ls hM hP hQ hS hl
      · refine lv_tableIn (tgt := 1297) (off := 1264) hx hb dL_law_33 (by decide) (by decide) (by rfl) (by decide) ?_
        exact law_30 K hi ih6 Mc Mm H locs ls hM hP hQ hS hl
      · refine lv_tableIn (tgt := 1310) (off := 1277) hx hb dL_law_33 (by decide) (by decide) (by rfl) (by decide) ?_
        exact law_31 K hi ih6 Mc Mm H locs ls hM hP hQ hS hl
    · exact law_end K hi hi4 H locs ls hS hl
