theorem nwF_in : ∀ q ∈ nwF, Cond.fieldLinkNest q.1 q.2.1 q.2.2.1 q.2.2.2.1 q.2.2.2.2 "BreathSquare" ∈ lw_tbl := List.forall_mem_cons.mpr ⟨wn_31, List.forall_mem_cons.mpr ⟨wn_65, List.forall_mem_cons.mpr ⟨wn_67, List.forall_mem_cons.mpr ⟨wn_69, List.forall_mem_cons.mpr ⟨wn_71, List.forall_mem_cons.mpr ⟨wn_73, List.forall_mem_cons.mpr ⟨wn_75, List.forall_mem_cons.mpr ⟨wn_77, List.forall_mem_cons.mpr ⟨wn_79, List.forall_mem_cons.mpr ⟨wn_81, List.forall_mem_cons.mpr ⟨wn_115, List.forall_mem_cons.mpr ⟨wn_140, List.forall_mem_cons.mpr ⟨wn_142, List.forall_mem_cons.mpr ⟨wn_144, List.forall_mem_cons.mpr ⟨wn_198, List.forall_mem_cons.mpr ⟨wn_218, List.forall_mem_cons.mpr ⟨wn_219, List.forall_mem_cons.mpr ⟨wn_221, fun _ h => absurd h List.not_mem_nil⟩⟩⟩⟩⟩⟩⟩⟩⟩⟩⟩⟩⟩⟩⟩⟩⟩⟩
theorem nwM_in : ∀ q ∈ nwM, Cond.methodLinkNest q.1 q.2.1 q.2.2 "BreathSquare" ∈ lw_tbl := List.forall_mem_cons.mpr ⟨wn_26, List.forall_mem_cons.mpr ⟨wn_37, List.forall_mem_cons.mpr ⟨wn_44, List.forall_mem_cons.mpr ⟨wn_51, List.forall_mem_cons.mpr ⟨wn_54, List.forall_mem_cons.mpr ⟨wn_58, List.forall_mem_cons.mpr ⟨wn_61, List.forall_mem_cons.mpr ⟨wn_213, List.forall_mem_cons.mpr ⟨wn_293, fun _ h => absurd h List.not_mem_nil⟩⟩⟩⟩⟩⟩⟩⟩⟩
theorem wC_get {g : Nat → ClassId} {a : Nat → Nat} {M : Mem} {i : Nat} (h : i < 41) : ∃ z, (wC g a M)[i]? = some (a i, z) := by
  have h1 : ((wC g a M).map Prod.fst)[i]? = some (a i) := by
    rw [show (wC g a M).map Prod.fst = (List.range 41).map a from rfl]; simp [h]
  rw [List.getElem?_map] at h1
  obtain ⟨z, hz, hq⟩ := Option.map_eq_some_iff.mp h1
  exact ⟨z.2, by rw [hz, ← hq]⟩
theorem wM_get {g : Nat → ClassId} {a : Nat → Nat} {M : Mem} {i : Nat} (h : i < 18) : ∃ z, (wM g a M)[i]? = some (a i, z) := by
  have h1 : ((wM g a M).map Prod.fst)[i]? = some (a i) := by
    rw [show (wM g a M).map Prod.fst = (List.range 18).map a from rfl]; simp [h]
  rw [List.getElem?_map] at h1
  obtain ⟨z, hz, hq⟩ := Option.map_eq_some_iff.mp h1
  exact ⟨z.2, by rw [hz, ← hq]⟩
theorem both {A : Nat → Prop} {g : Nat → ClassId} {a b : Nat → Nat} {M R : Mem} (hD : va_D A (wC g a M ++ wM g b R)) : Inj a 41 ∧ Inj b 18 ∧ (∀ i j, i < 41 → j < 18 → a i ≠ b j) ∧ (∀ i, i < 41 → A (a i)) ∧ ∀ i, i < 18 → A (b i) := by
  have hl : (wC g a M).length = 41 := rfl
  have e1 : ∀ i, i < 41 → ∃ z, (wC g a M ++ wM g b R)[i]? = some (a i, z) := fun i hi => by
    obtain ⟨z, hz⟩ := wC_get (g := g) (a := a) (M := M) hi
    exact ⟨z, by rw [List.getElem?_append_left (by rw [hl]; exact hi)]; exact hz⟩
  have e2 : ∀ i, i < 18 → ∃ z, (wC g a M ++ wM g b R)[41 + i]? = some (b i, z) := fun i hi => by
    obtain ⟨z, hz⟩ := wM_get (g := g) (a := b) (M := R) hi
    exact ⟨z, by rw [List.getElem?_append_right (by rw [hl]; omega), hl, Nat.add_sub_cancel_left]; exact hz⟩
  refine ⟨fun i j hi hj e => ?_, fun i j hi hj e => ?_, fun i j hi hj e => ?_, fun i hi => ?_, fun i hi => ?_⟩
  · obtain ⟨z1, h1⟩ := e1 i hi
    obtain ⟨z2, h2⟩ := e1 j hj
    exact hD.1 i j _ _ h1 h2 e
  · obtain ⟨z1, h1⟩ := e2 i hi
    obtain ⟨z2, h2⟩ := e2 j hj
    have := hD.1 _ _ _ _ h1 h2 e
    omega
  · obtain ⟨z1, h1⟩ := e1 i hi
    obtain ⟨z2, h2⟩ := e2 j hj
    have := hD.1 _ _ _ _ h1 h2 e
    omega
  · obtain ⟨z1, h1⟩ := e1 i hi
    exact hD.2 _ _ h1
  · obtain ⟨z1, h1⟩ := e2 i hi
    exact hD.2 _ _ h1
theorem vaL {D : va_G} {w1 w2 : va_W} {H : Heap} (h : va_P D clL (w1 ++ w2) H) : va_P D clL w1 H := fun k q hk => h k q (by
  rw [List.getElem?_append_left (List.getElem?_eq_some_iff.mp hk).1]; exact hk)
theorem vaR {D : va_G} {w1 w2 : va_W} {H : Heap} (h : va_P D clL (w1 ++ w2) H) : va_P D clL w2 H := fun k q hk => h (w1.length + k) q (by
  rw [List.getElem?_append_right (by omega), Nat.add_sub_cancel_left]; exact hk)
theorem sim0 : Sim M0 R0 := by
  refine ⟨⟨fun _ _ => 0, ⟨Or.inl ⟨rfl, rfl⟩, fun c hc => absurd hc (by simp), fun m _ => ⟨Nat.zero_le _, Nat.zero_le _⟩⟩, fun c hc => absurd hc (by simp), ⟨rfl, rfl, fun c hc => absurd hc (by simp), fun m _ => ⟨rfl, rfl⟩⟩, ⟨rfl, rfl, fun c hc => absurd hc (by simp), fun m _ => ⟨rfl, rfl⟩⟩⟩, rfl, rfl, ⟨0, by decide, rfl, rfl, fun i hi => absurd hi (by omega)⟩, fun k hk => Or.inl ?_⟩
  rcases lt4 hk with rfl | rfl | rfl | rfl <;> exact ⟨rfl, rfl⟩
set_option maxHeartbeats 8000000 in
set_option maxRecDepth 100000 in
theorem whole_start {p : Program} {e : Env} {s : State} {m : MethodId} {below : List Frame} {meth : Method} {c : Code} (l : Launch) {b L : Nat} {xs : Nat → Int32} (hL : L ≤ 3072) (C0 : lw_At p s m meth c b L xs) : W p l e room_1 s m #[Value.ref b] below meth c s.heap [] 0 0 (lw_Z below #[Value.ref b] s) (entryFrame m ([Value.ref b] : List Value).toArray 4) := by
  obtain ⟨hx, hb, hr, hml, hown, hts, hX, hbl, hlocks, hgv⟩ := id C0
  have ht : ∀ w ∈ gT, w.before #[Value.ref b] s = true := fun w h => hts w (gT_in h)
  have hA : ∀ q : Nat, s.heap.size ≤ q → aLw s q := fun _ h => h
  obtain ⟨c0, iS0, k0⟩ := u_known (C := RX0) (T := TX0) (N := 0) (n := 0) ht giX0 (ht _ wd_50)
  obtain ⟨c1, iS1, k1⟩ := u_known (C := RX1) (T := TX1) (N := 0) (n := 0) ht giX1 (ht _ wd_57)
  obtain ⟨c2, iS2, k2⟩ := u_known (C := RX2) (T := TX2) (N := 2) (n := 2) ht giX2 (ht _ wd_175)
  obtain ⟨c3, iS3, k3⟩ := u_known (C := RX3) (T := TX3) (N := 10) (n := 10) ht giX3 (ht _ wd_36)
  obtain ⟨c4, iS4, k4⟩ := u_known (C := RX4) (T := TX4) (N := 6) (n := 6) ht giX4 (ht _ wd_131)
  obtain ⟨c5, iS5, k5⟩ := u_known (C := RX5) (T := TX5) (N := 5) (n := 5) ht giX5 (ht _ wd_188)
  obtain ⟨c6, iS6, k6⟩ := u_known (C := RX6) (T := TX6) (N := 3) (n := 3) ht giX6 (ht _ wd_212)
  obtain ⟨c7, iS7, k7⟩ := u_known (C := RX7) (T := TX7) (N := 0) (n := 0) ht giX7 (ht _ wd_43)
  obtain ⟨c8, iS8, k8⟩ := u_known (C := RX8) (T := TX8) (N := 1) (n := 1) ht giX8 (ht _ wd_25)
  obtain ⟨c9, iS9, k9⟩ := u_known (C := RX9) (T := TX9) (N := 3) (n := 3) ht giX9 (ht _ wd_159)
  obtain ⟨c10, iS10, k10⟩ := u_known (C := RX10) (T := TX10) (N := 6) (n := 6) ht giX10 (ht _ wd_105)
  obtain ⟨c11, iS11, k11⟩ := u_known (C := RX11) (T := TX11) (N := 9) (n := 9) ht giX11 (ht _ wd_17)
  obtain ⟨c12, iS12, k12⟩ := u_known (C := RX12) (T := TX12) (N := 25) (n := 25) ht giX12 (ht _ wd_727)
  obtain ⟨D, hKc⟩ : ∃ D : va_G, ∀ (k : Nat) (q : vw_C), clL[k]? = some q → u_Kn s q.1 q.2.1 q.2.2 (D.1 k) (D.2 k) := by
    refine ⟨(fun k => [c0, c1, c2, c3, c4, c5, c6, c7, c8, c9, c10, c11, c12].getD k c0, fun k => [iS0, iS1, iS2, iS3, iS4, iS5, iS6, iS7, iS8, iS9, iS10, iS11, iS12].getD k iS0), ?_⟩
    intro k q hq
    match k, hq with
    | 0, hq => cases hq; exact k0
    | 1, hq => cases hq; exact k1
    | 2, hq => cases hq; exact k2
    | 3, hq => cases hq; exact k3
    | 4, hq => cases hq; exact k4
    | 5, hq => cases hq; exact k5
    | 6, hq => cases hq; exact k6
    | 7, hq => cases hq; exact k7
    | 8, hq => cases hq; exact k8
    | 9, hq => cases hq; exact k9
    | 10, hq => cases hq; exact k10
    | 11, hq => cases hq; exact k11
    | 12, hq => cases hq; exact k12
    | k + 13, hq => simp [clL] at hq
  have hN : NW s := ⟨fun q hq => va_Nw.of rfl (hts _ (nwF_in q hq)), fun q hq => va_Nw.of rfl (hts _ (nwM_in q hq)), va_Nw.of rfl (hts _ wn_690), va_Nw.of rfl (hts _ wn_1060), va_Nw.of rfl (hts _ wn_1061), va_AO.of (hts _ wn_42), va_AO.of (hts _ wn_211)⟩
  obtain ⟨cI, kI, pI, i1, i2, i3⟩ := Cond.arrayClass_spec (ht _ wd_103)
  obtain ⟨cZ, kZ, pZ, j1, j2, j3⟩ := Cond.arrayClass_spec (ht _ wd_808)
  obtain ⟨pS, cS, kS, s1, s2, s3, s4, s5⟩ := Cond.arrayOver_spec hN.2.2.2.2.2.2
  obtain ⟨pT, cT, kT, t1, t2, t3, t4, t5⟩ := Cond.arrayOver_spec hN.2.2.2.2.2.1
  obtain ⟨g, g0, g1, g2, g3⟩ : ∃ g : Nat → ClassId, g 0 = cI ∧ g 1 = cZ ∧ g 2 = cS ∧ g 3 = cT := ⟨fun k => [cI, cZ, cS, cT].getD k cI, rfl, rfl, rfl, rfl⟩
  have hK : va_K D clL (tyL g) s := by
    refine ⟨hKc, fun k q hq => ?_⟩
    match k, hq with
    | 0, hq => cases hq; rw [g0]; exact ⟨fun n z => ⟨fun k h => (by cases h), kI, i2, pI, i3⟩, i1⟩
    | 1, hq => cases hq; rw [g1]; exact ⟨fun n z => ⟨fun k h => (by cases h), kZ, j2, pZ, j3⟩, j1⟩
    | 2, hq => cases hq; rw [g2]; exact ⟨fun n z => ⟨fun k h => (by cases h), kS, s3, pS, s4⟩, kS, pS, s3, s4, s1, s5⟩
    | 3, hq => cases hq; rw [g3]; exact ⟨fun n z => ⟨fun k h => (by cases h), kT, t3, pT, t4⟩, kT, pT, t3, t4, t1, t5⟩
    | k + 4, hq => simp at hq
  have C : Cx p s m #[Value.ref b] meth c cL_law 4 ret R_law D (tyL g) := ⟨hx, hb, hr, hml, hown, ht, hlocks, hK, hN⟩
  have hS : va_S (aLw s) s.heap s.heap [] := va_S.rf
  have hP : va_P D clL [] s.heap := fun k q h => by simp at h
  have hD : va_D (aLw s) [] := ⟨fun i j p q h => by simp at h, fun k q h => by simp at h⟩
  have hl := lv_entry ([.ref b]) (n := 4) (Nat.le_of_ble_eq_true rfl)
  rw [lg_entry_eq]
  generalize (lg_sl ([.ref b]) ++ List.replicate (4 - (lg_sl ([.ref b])).length) Slot.unset).toArray = ls at hl ⊢
  have hl : lv_has ls 4 [(0, .ref b)] := hl
  refine va_new (ci := 11) (fs := [.null, .null, .null, .null, .null, .null, .null, .null, .int 0]) (C := RX11) (T := TX11) (N := 9) hx hb ht giX11 tyX11 tyX11_ok hown (ht _ wd_16) (ht _ wd_17) (ht _ wd_1) hK hP hD hS hA rfl (fun j hj => by rcases (show j = 0 ∨ j = 1 ∨ j = 2 ∨ j = 3 ∨ j = 4 ∨ j = 5 ∨ j = 6 ∨ j = 7 ∨ j = 8 by omega) with rfl | rfl | rfl | rfl | rfl | rfl | rfl | rfl | rfl <;> rfl) (Nat.le_of_ble_eq_true rfl) (Nat.le_of_ble_eq_true rfl) dL_law_0 (fun x0 H hP hD hS => ?_)
  have hP : va_P D clL [(x0, .inr (11, [.null, .null, .null, .null, .null, .null, .null, .null, .int 0]))] H := hP
  have hD : va_D (aLw s) [(x0, .inr (11, [.null, .null, .null, .null, .null, .null, .null, .null, .int 0]))] := hD
  refine W.widen (k := 1) (n := 9) (Nat.le_of_ble_eq_true rfl) (Nat.le_of_ble_eq_true rfl) ?_
  refine lv_dup hx hb dL_law_3 rfl ?_
  refine kC (wr := []) (rI (rest := [.ref x0]) C (c_X11_init l D g x0 H.size) ok_X11_init wd_18 hP ⟨rfl, rfl, Nat.le_of_ble_eq_true rfl, Nat.le_of_ble_eq_true rfl⟩ rfl hl.1 rfl (Nat.le_of_ble_eq_true rfl) dL_law_4 ⟨Nat.le_of_ble_eq_true rfl, Nat.le_of_ble_eq_true rfl⟩) hP hD hS hA 0 [] rfl rfl (by decide) (by decide) (fun a H locs ha0 hP hD hS => ?_)
  have hP : va_P D clL (wC g a M0) H := hP
  have hD : va_D (aLw s) (wC g a M0) := hD
  refine W.widen (k := 41) (n := 885) (Nat.le_of_ble_eq_true rfl) (Nat.le_of_ble_eq_true rfl) ?_
  refine lv_astore_n (lv' := [(1, .ref x0), (0, .ref b)]) hx hb dL_law_7 rfl hl (by decide) rfl (fun ls hl => ?_)
  refine va_new (ci := 12) (fs := [.int 0, .int 0, .null, .null, .null, .int 0, .int 0, .null, .null, .null, .null, .null, .int 0, .int 0, .int 0, .null, .null, .null, .null, .null, .null, .int 0, .null, .null, .null]) (C := RX12) (T := TX12) (N := 25) hx hb ht giX12 tyX12 tyX12_ok hown (ht _ wd_726) (ht _ wd_727) (ht _ wd_13) hK hP hD hS hA rfl (fun j hj => by rcases (show j = 0 ∨ j = 1 ∨ j = 2 ∨ j = 3 ∨ j = 4 ∨ j = 5 ∨ j = 6 ∨ j = 7 ∨ j = 8 ∨ j = 9 ∨ j = 10 ∨ j = 11 ∨ j = 12 ∨ j = 13 ∨ j = 14 ∨ j = 15 ∨ j = 16 ∨ j = 17 ∨ j = 18 ∨ j = 19 ∨ j = 20 ∨ j = 21 ∨ j = 22 ∨ j = 23 ∨ j = 24 by omega) with rfl | rfl | rfl | rfl | rfl | rfl | rfl | rfl | rfl | rfl | rfl | rfl | rfl | rfl | rfl | rfl | rfl | rfl | rfl | rfl | rfl | rfl | rfl | rfl | rfl <;> rfl) (Nat.le_of_ble_eq_true rfl) (Nat.le_of_ble_eq_true rfl) dL_law_8 (fun y0 H hP hD hS => ?_)
  refine W.widen (k := 42) (n := 910) (Nat.le_of_ble_eq_true rfl) (Nat.le_of_ble_eq_true rfl) ?_
  refine lv_dup hx hb dL_law_11 rfl ?_
  refine kC (wr := wC g a M0) (rI (rest := [.ref y0]) C (c_X12_init l D g y0 H.size) ok_X12_init wd_728 (hP.sub (ws' := [(y0, .inr (12, [.int 0, .int 0, .null, .null, .null, .int 0, .int 0, .null, .null, .null, .null, .null, .int 0, .int 0, .int 0, .null, .null, .null, .null, .null, .null, .int 0, .null, .null, .null]))]) [41] rfl) ⟨rfl, rfl, Nat.le_of_ble_eq_true rfl, Nat.le_of_ble_eq_true rfl⟩ rfl hl.1 rfl (Nat.le_of_ble_eq_true rfl) dL_law_12 ⟨Nat.le_of_ble_eq_true rfl, Nat.le_of_ble_eq_true rfl⟩) hP hD hS hA 41 [0, 1, 2, 3, 4, 5, 6, 7, 8, 9, 10, 11, 12, 13, 14, 15, 16, 17, 18, 19, 20, 21, 22, 23, 24, 25, 26, 27, 28, 29, 30, 31, 32, 33, 34, 35, 36, 37, 38, 39, 40] rfl rfl (by decide) (by decide) (fun bb H locs hb0 hP hD hS => ?_)
  have hPf : va_P D clL (wC g a M0 ++ wM g bb R0) H := hP
  have hDf : va_D (aLw s) (wC g a M0 ++ wM g bb R0) := hD
  have hSf := hS
  refine W.widen (k := 59) (n := 1562) (Nat.le_of_ble_eq_true rfl) (Nat.le_of_ble_eq_true rfl) ?_
  refine lv_astore_n (lv' := [(2, .ref y0), (1, .ref x0), (0, .ref b)]) hx hb dL_law_15 rfl hl (by decide) rfl (fun ls hl => ?_)
  refine lv_iconst (v := 0) hx hb dL_law_16 (by decide) ?_
  refine lv_istore_n (lv' := [(3, .int 0), (2, .ref y0), (1, .ref x0), (0, .ref b)]) hx hb dL_law_17 rfl hl (by decide) rfl (fun ls hl => ?_)
  obtain ⟨f1, f2, f3, f4, f5⟩ := both hDf
  have ha0 : a 0 = x0 := ha0
  have hb0 : bb 0 = y0 := hb0
  subst ha0
  subst hb0
  exact law_loop (l := l) (e := e) (below := below) ⟨C, hX, hbl, f1, f2, f3, f4, f5, hL⟩ (L + 1) 0 (by omega) (by omega) M0 R0 H locs ls sim0 (vaL hPf) (vaR hPf) hSf (lv_sub hl [3, 2, 1, 0] rfl)
