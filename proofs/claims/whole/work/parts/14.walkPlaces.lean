set_option maxHeartbeats 4000000 in
set_option maxRecDepth 100000 in
theorem c_X5_forgetAll (l : Launch) (D : va_G) (g : Nat → ClassId) (a : Nat → Nat) (hJ : Inj a 41) (M : Mem) (M' : Mem) (hf : f_X5_forgetAll M = some M') : Met l yX5_forgetAll (cW yX5_forgetAll cX5_forgetAll 1 none) (rmv 0 0) (Pw D (tyL g) (wC g a M) [.ref (a 7)]) (WvQ D (wC g a M') (inA a 41)) 0 0 (inA a 41) := by
  unfold f_X5_forgetAll at hf
  refine met_inW (A := (inA a 41)) (by decide) (Nat.le_of_ble_eq_true rfl) ?_
  intro p e s m args below meth c ls H locs C hP hS hl
  have C : Cx p s m args meth c cX5_forgetAll 1 none RX5 D (tyL g) := C
  obtain ⟨hx, hb, hr, hml, hown, ht, hlocks, hK, hN⟩ := id C
  have hl : lv_has ls 1 [(0, .ref (a 7))] := hl
  refine lv_aload_n hx hb dX5_forgetAll_0 rfl (lv_at hl 0 rfl) ?_
  refine lv_iconst (v := 0) hx hb dX5_forgetAll_1 (by decide) ?_
  refine fp_X5_25 C hP (wC_D hJ) hS dX5_forgetAll_2 (fun H locs hP hS => ?_)
  obtain ⟨M1, eM1, hf⟩ := nms hf
  have hP : va_P D clL (wC g a M1) H := by rw [eM1]; exact hP
  obtain rfl := Option.some.inj hf
  exact retWv C hP hS dX5_forgetAll_5
set_option maxHeartbeats 4000000 in
set_option maxRecDepth 100000 in
theorem c_X4_measure (l : Launch) (D : va_G) (g : Nat → ClassId) (a : Nat → Nat) (hJ : Inj a 41) (N : Nat) (M : Mem) (x1 : Int32) (M' : Mem) (hf : f_X4_measure N M x1 = some M') : Met l yX4_measure (cW yX4_measure cX4_measure 2 none) (rmv 5 112) (Pw D (tyL g) (wC g a M) [.ref (a 4), .int x1]) (WvQ D (wC g a M') (inA a 41)) 0 0 (inA a 41) := by
  unfold f_X4_measure at hf
  refine met_inW (A := (inA a 41)) (by decide) (Nat.le_of_ble_eq_true rfl) ?_
  intro p e s m args below meth c ls H locs C hP hS hl
  have C : Cx p s m args meth c cX4_measure 2 none RX4 D (tyL g) := C
  obtain ⟨hx, hb, hr, hml, hown, ht, hlocks, hK, hN⟩ := id C
  have hl : lv_has ls 2 [(0, .ref (a 4)), (1, .int x1)] := hl
  refine lv_aload_n hx hb dX4_measure_0 rfl (lv_at hl 0 rfl) ?_
  refine fg_X4_18 C hP dX4_measure_1 ?_
  refine lv_iload_n hx hb dX4_measure_4 rfl (lv_at hl 1 rfl) ?_
  refine lv_aload_n hx hb dX4_measure_5 rfl (lv_at hl 0 rfl) ?_
  refine fg_X4_9 C hP dX4_measure_6 ?_
  obtain ⟨M1, e_1, hf⟩ := bns hf
  refine kWv (rV (rest := []) C (c_X3_writeHeights l D g a hJ N 33 (isH_33) M x1 M1 e_1) ok_X3_writeHeights wd_455 hP 2 (aC_2 g a M) rfl ⟨rfl, rfl, Nat.le_of_ble_eq_true rfl, Nat.le_of_ble_eq_true rfl⟩ rfl hl.1 rfl (Nat.le_of_ble_eq_true rfl) dX4_measure_9 ⟨Nat.le_of_ble_eq_true rfl, Nat.le_of_ble_eq_true rfl⟩) hS (fun H locs hP hS => ?_)
  obtain rfl := Option.some.inj hf
  exact retWv C hP hS dX4_measure_12
set_option maxHeartbeats 4000000 in
set_option maxRecDepth 100000 in
theorem c_X4_wedgesAt (l : Launch) (D : va_G) (g : Nat → ClassId) (a : Nat → Nat) (M : Mem) (x1 : Int32) (r : Int32) (hf : f_X4_wedgesAt M x1 = some r) : Met l yX4_wedgesAt (cW yX4_wedgesAt cX4_wedgesAt 6 (some .int)) (rmv 1 21) (Pw D (tyL g) (wC g a M) [.ref (a 4), .int x1]) (RdQ (.int r)) 0 0 nof := by
  unfold f_X4_wedgesAt at hf
  refine met_in (by decide) (Nat.le_of_ble_eq_true rfl) ?_
  intro p e s m args below meth c ls C hP hl
  have C : Cx p s m args meth c cX4_wedgesAt 6 (some .int) RX4 D (tyL g) := C
  obtain ⟨hx, hb, hr, hml, hown, ht, hlocks, hK, hN⟩ := id C
  have hl : lv_has ls 6 [(0, .ref (a 4)), (1, .int x1)] := hl
  refine lv_iload_n hx hb dX4_wedgesAt_0 rfl (lv_at hl 1 rfl) ?_
  refine lv_aload_n hx hb dX4_wedgesAt_1 rfl (lv_at hl 0 rfl) ?_
  refine fg_X4_18 C hP dX4_wedgesAt_2 ?_
  refine fg_X4_28 C hP dX4_wedgesAt_5 ?_
  refine lv_iadd hx hb dX4_wedgesAt_8 ?_
  refine lv_topi (fun z1 ez1 => ?_)
  have hf := nmr ez1 hf
  refine lv_istore_n (lv' := [(2, .int z1), (0, .ref (a 4)), (1, .int x1)]) hx hb dX4_wedgesAt_9 rfl hl (by decide) rfl (fun ls hl => ?_)
  refine lv_aload_n hx hb dX4_wedgesAt_10 rfl (lv_at hl 1 rfl) ?_
  refine fg_X4_9 C hP dX4_wedgesAt_11 ?_
  refine lv_iload_n hx hb dX4_wedgesAt_14 rfl (lv_at hl 2 rfl) ?_
  obtain ⟨h_2, hf⟩ := ifs hf
  refine va_iald hx hb hK hP 33 0 (aC_33 g a M) rfl h_2 dX4_wedgesAt_15 ?_
  refine lv_aload_n hx hb dX4_wedgesAt_16 rfl (lv_at hl 1 rfl) ?_
  refine fg_X4_9 C hP dX4_wedgesAt_17 ?_
  refine lv_iload_n hx hb dX4_wedgesAt_20 rfl (lv_at hl 2 rfl) ?_
  refine lv_iconst (v := 1) hx hb dX4_wedgesAt_21 (by decide) ?_
  refine lv_iadd hx hb dX4_wedgesAt_22 ?_
  obtain ⟨h_3, hf⟩ := ifs hf
  refine va_iald hx hb hK hP 33 0 (aC_33 g a M) rfl h_3 dX4_wedgesAt_23 ?_
  refine va_mmax hx hb (hml.trans hl.1.symm) hown (ht _ wd_460) (ht _ wd_404) (ht _ wd_14) (ht _ wd_405) (Nat.le_of_ble_eq_true rfl) (Nat.le_of_ble_eq_true rfl) (Nat.le_refl _) (Nat.le_refl _) dX4_wedgesAt_24 ?_
  refine lv_topi (fun z4 ez4 => ?_)
  have hf := nmr ez4 hf
  refine lv_istore_n (lv' := [(3, .int z4), (2, .int z1), (0, .ref (a 4)), (1, .int x1)]) hx hb dX4_wedgesAt_27 rfl hl (by decide) rfl (fun ls hl => ?_)
  refine lv_aload_n hx hb dX4_wedgesAt_28 rfl (lv_at hl 2 rfl) ?_
  refine fg_X4_9 C hP dX4_wedgesAt_29 ?_
  refine lv_iload_n hx hb dX4_wedgesAt_32 rfl (lv_at hl 1 rfl) ?_
  obtain ⟨h_5, hf⟩ := ifs hf
  refine va_iald hx hb hK hP 33 0 (aC_33 g a M) rfl h_5 dX4_wedgesAt_33 ?_
  refine lv_aload_n hx hb dX4_wedgesAt_34 rfl (lv_at hl 2 rfl) ?_
  refine fg_X4_9 C hP dX4_wedgesAt_35 ?_
  refine lv_iload_n hx hb dX4_wedgesAt_38 rfl (lv_at hl 1 rfl) ?_
  refine lv_iconst (v := 1) hx hb dX4_wedgesAt_39 (by decide) ?_
  refine lv_iadd hx hb dX4_wedgesAt_40 ?_
  obtain ⟨h_6, hf⟩ := ifs hf
  refine va_iald hx hb hK hP 33 0 (aC_33 g a M) rfl h_6 dX4_wedgesAt_41 ?_
  refine va_mmax hx hb (hml.trans hl.1.symm) hown (ht _ wd_460) (ht _ wd_404) (ht _ wd_14) (ht _ wd_405) (Nat.le_of_ble_eq_true rfl) (Nat.le_of_ble_eq_true rfl) (Nat.le_refl _) (Nat.le_refl _) dX4_wedgesAt_42 ?_
  refine lv_topi (fun z7 ez7 => ?_)
  have hf := nmr ez7 hf
  refine lv_istore (lv' := [(4, .int z7), (3, .int z4), (2, .int z1), (0, .ref (a 4)), (1, .int x1)]) hx hb dX4_wedgesAt_45 hl (by decide) rfl (fun ls hl => ?_)
  refine lv_aload_n hx hb dX4_wedgesAt_47 rfl (lv_at hl 3 rfl) ?_
  refine fg_X4_9 C hP dX4_wedgesAt_48 ?_
  refine lv_iload_n hx hb dX4_wedgesAt_51 rfl (lv_at hl 4 rfl) ?_
  refine va_iald hx hb hK hP 33 0 (aC_33 g a M) rfl h_2 dX4_wedgesAt_52 ?_
  refine lv_aload_n hx hb dX4_wedgesAt_53 rfl (lv_at hl 3 rfl) ?_
  refine fg_X4_9 C hP dX4_wedgesAt_54 ?_
  refine lv_iload_n hx hb dX4_wedgesAt_57 rfl (lv_at hl 4 rfl) ?_
  refine lv_iconst (v := 1) hx hb dX4_wedgesAt_58 (by decide) ?_
  refine lv_iadd hx hb dX4_wedgesAt_59 ?_
  refine va_iald hx hb hK hP 33 0 (aC_33 g a M) rfl h_3 dX4_wedgesAt_60 ?_
  refine lv_iadd hx hb dX4_wedgesAt_61 ?_
  refine lv_aload_n hx hb dX4_wedgesAt_62 rfl (lv_at hl 3 rfl) ?_
  refine fg_X4_9 C hP dX4_wedgesAt_63 ?_
  refine lv_iload_n hx hb dX4_wedgesAt_66 rfl (lv_at hl 2 rfl) ?_
  refine va_iald hx hb hK hP 33 0 (aC_33 g a M) rfl h_5 dX4_wedgesAt_67 ?_
  refine lv_iadd hx hb dX4_wedgesAt_68 ?_
  refine lv_aload_n hx hb dX4_wedgesAt_69 rfl (lv_at hl 3 rfl) ?_
  refine fg_X4_9 C hP dX4_wedgesAt_70 ?_
  refine lv_iload_n hx hb dX4_wedgesAt_73 rfl (lv_at hl 2 rfl) ?_
  refine lv_iconst (v := 1) hx hb dX4_wedgesAt_74 (by decide) ?_
  refine lv_iadd hx hb dX4_wedgesAt_75 ?_
  refine va_iald hx hb hK hP 33 0 (aC_33 g a M) rfl h_6 dX4_wedgesAt_76 ?_
  refine lv_iadd hx hb dX4_wedgesAt_77 ?_
  refine lv_topi (fun z8 ez8 => ?_)
  have hf := nmr ez8 hf
  refine lv_istore (lv' := [(5, .int z8), (4, .int z7), (3, .int z4), (2, .int z1), (0, .ref (a 4)), (1, .int x1)]) hx hb dX4_wedgesAt_78 hl (by decide) rfl (fun ls hl => ?_)
  refine lv_iconst (v := 4) hx hb dX4_wedgesAt_80 (by decide) ?_
  refine lv_iload_n hx hb dX4_wedgesAt_81 rfl (lv_at hl 2 rfl) ?_
  refine lv_iload hx hb dX4_wedgesAt_82 (lv_at hl 1 rfl) ?_
  refine va_mmax hx hb (hml.trans hl.1.symm) hown (ht _ wd_460) (ht _ wd_404) (ht _ wd_14) (ht _ wd_405) (Nat.le_of_ble_eq_true rfl) (Nat.le_of_ble_eq_true rfl) (Nat.le_refl _) (Nat.le_refl _) dX4_wedgesAt_84 ?_
  refine lv_imul hx hb dX4_wedgesAt_87 ?_
  refine lv_iload hx hb dX4_wedgesAt_88 (lv_at hl 0 rfl) ?_
  refine lv_isub hx hb dX4_wedgesAt_90 ?_
  obtain rfl := Option.some.inj hf
  exact retR C dX4_wedgesAt_91
set_option maxHeartbeats 4000000 in
set_option maxRecDepth 100000 in
theorem w_X4_bestPlace_l4 {p : Program} {l : Launch} {e : Env} {s : State} {m : MethodId} {args : Array Value} {below : List Frame} {meth : Method} {c : Code} {D : va_G} {g : Nat → ClassId} {a : Nat → Nat} (C : Cx p s m args meth c cX4_bestPlace 3 (some .int) RX4 D (tyL g)) (N : Nat) (M : Mem) (hP : va_P D clL (wC g a M) s.heap) (r : Int32) :
    ∀ (n : Nat) (x1 : Int32) (x2 : Int32), ∀ (ls : Array Slot), lv_has ls 3 [(0, .ref (a 4)), (1, .int x1), (2, .int x2)] → f_X4_bestPlace_l4 N M n x1 x2 = some r → W p l e (rmv 2 46) s m args below meth c s.heap [] 0 0 (MQ below (RdQ (.int r)) args s 0 0 nof) (F0 m 4 ls []) := by
  obtain ⟨hx, hb, hr, hml, hown, ht, hlocks, hK, hN⟩ := id C
  intro n
  induction n with
  | zero =>
    intro x1 x2 ls hl hf
    exact nos hf
  | succ n ih =>
    intro x1 x2 ls hl hf
    rw [f_X4_bestPlace_l4] at hf
    refine lv_iload_n hx hb dX4_bestPlace_4 rfl (lv_at hl 2 rfl) ?_
    refine lv_aload_n hx hb dX4_bestPlace_5 rfl (lv_at hl 0 rfl) ?_
    refine fg_X4_18 C hP dX4_bestPlace_6 ?_
    obtain ⟨r1, e_1, hf⟩ := bns hf
    refine kR (rV (rest := [.int x2]) C (c_X3_stones l D g a M r1 e_1) ok_X3_stones wd_473 hP 2 (aC_2 g a M) rfl ⟨rfl, rfl, Nat.le_of_ble_eq_true rfl, Nat.le_of_ble_eq_true rfl⟩ rfl hl.1 rfl (Nat.le_of_ble_eq_true rfl) dX4_bestPlace_9 ⟨Nat.le_of_ble_eq_true rfl, Nat.le_of_ble_eq_true rfl⟩) ?_
    refine lv_icmp_ge (tgt := 47) hx hb dX4_bestPlace_12 (by decide) (fun c_2 => ?_) (fun c_2 => ?_)
    · have hf := ifp c_2 hf
      refine lv_iload_n hx hb dX4_bestPlace_47 rfl (lv_at hl 1 rfl) ?_
      obtain rfl := Option.some.inj hf
      exact retR C dX4_bestPlace_48
    · have hf := ifn c_2 hf
      refine lv_aload_n hx hb dX4_bestPlace_15 rfl (lv_at hl 0 rfl) ?_
      refine fg_X4_18 C hP dX4_bestPlace_16 ?_
      refine lv_iload_n hx hb dX4_bestPlace_19 rfl (lv_at hl 2 rfl) ?_
      obtain ⟨r3, e_3, hf⟩ := bns hf
      refine kR (rV (rest := []) C (c_X3_hasStall l D g a M x2 r3 e_3) ok_X3_hasStall wd_474 hP 2 (aC_2 g a M) rfl ⟨rfl, rfl, Nat.le_of_ble_eq_true rfl, Nat.le_of_ble_eq_true rfl⟩ rfl hl.1 rfl (Nat.le_of_ble_eq_true rfl) dX4_bestPlace_20 ⟨Nat.le_of_ble_eq_true rfl, Nat.le_of_ble_eq_true rfl⟩) ?_
      refine lv_if_eq (tgt := 41) hx hb dX4_bestPlace_23 (by decide) (fun c_4 => ?_) (fun c_4 => ?_)
      · have hf := ifp c_4 hf
        refine lv_iinc (v := (x2 + 1)) (lv' := [(2, .int (x2 + 1)), (0, .ref (a 4)), (1, .int x1)]) hx hb dX4_bestPlace_41 hl (k := 2) rfl rfl (by decide) rfl (fun ls hl => ?_)
        refine lv_goto (tgt := 4) hx hb dX4_bestPlace_44 (by decide) ?_
        exact ih x1 (x2 + 1) ls (lv_sub hl [1, 2, 0] rfl) hf
      · have hf := ifn c_4 hf
        refine lv_aload_n hx hb dX4_bestPlace_26 rfl (lv_at hl 0 rfl) ?_
        refine lv_iload_n hx hb dX4_bestPlace_27 rfl (lv_at hl 2 rfl) ?_
        obtain ⟨r5, e_5, hf⟩ := bns hf
        refine kR (rV (rest := []) C (c_X4_wedgesAt l D g a M x2 r5 e_5) ok_X4_wedgesAt wd_475 hP 4 (aC_4 g a M) rfl ⟨rfl, rfl, Nat.le_of_ble_eq_true rfl, Nat.le_of_ble_eq_true rfl⟩ rfl hl.1 rfl (Nat.le_of_ble_eq_true rfl) dX4_bestPlace_28 ⟨Nat.le_of_ble_eq_true rfl, Nat.le_of_ble_eq_true rfl⟩) ?_
        refine lv_aload_n hx hb dX4_bestPlace_31 rfl (lv_at hl 0 rfl) ?_
        refine lv_iload_n hx hb dX4_bestPlace_32 rfl (lv_at hl 1 rfl) ?_
        obtain ⟨r6, e_6, hf⟩ := bns hf
        refine kR (rV (rest := [.int r5]) C (c_X4_wedgesAt l D g a M x1 r6 e_6) ok_X4_wedgesAt wd_475 hP 4 (aC_4 g a M) rfl ⟨rfl, rfl, Nat.le_of_ble_eq_true rfl, Nat.le_of_ble_eq_true rfl⟩ rfl hl.1 rfl (Nat.le_of_ble_eq_true rfl) dX4_bestPlace_33 ⟨Nat.le_of_ble_eq_true rfl, Nat.le_of_ble_eq_true rfl⟩) ?_
        refine lv_icmp_ge (tgt := 41) hx hb dX4_bestPlace_36 (by decide) (fun c_7 => ?_) (fun c_7 => ?_)
        · have hf := ifp c_7 hf
          refine lv_iinc (v := (x2 + 1)) (lv' := [(2, .int (x2 + 1)), (0, .ref (a 4)), (1, .int x1)]) hx hb dX4_bestPlace_41 hl (k := 2) rfl rfl (by decide) rfl (fun ls hl => ?_)
          refine lv_goto (tgt := 4) hx hb dX4_bestPlace_44 (by decide) ?_
          exact ih x1 (x2 + 1) ls (lv_sub hl [1, 2, 0] rfl) hf
        · have hf := ifn c_7 hf
          refine lv_iload_n hx hb dX4_bestPlace_39 rfl (lv_at hl 2 rfl) ?_
          refine lv_istore_n (lv' := [(1, .int x2), (0, .ref (a 4)), (2, .int x2)]) hx hb dX4_bestPlace_40 rfl hl (by decide) rfl (fun ls hl => ?_)
          refine lv_iinc (v := (x2 + 1)) (lv' := [(2, .int (x2 + 1)), (1, .int x2), (0, .ref (a 4))]) hx hb dX4_bestPlace_41 hl (k := 2) rfl rfl (by decide) rfl (fun ls hl => ?_)
          refine lv_goto (tgt := 4) hx hb dX4_bestPlace_44 (by decide) ?_
          exact ih x2 (x2 + 1) ls (lv_sub hl [2, 1, 0] rfl) hf
set_option maxHeartbeats 4000000 in
set_option maxRecDepth 100000 in
theorem c_X4_bestPlace (l : Launch) (D : va_G) (g : Nat → ClassId) (a : Nat → Nat) (N : Nat) (M : Mem) (r : Int32) (hf : f_X4_bestPlace N M = some r) : Met l yX4_bestPlace (cW yX4_bestPlace cX4_bestPlace 3 (some .int)) (rmv 2 46) (Pw D (tyL g) (wC g a M) [.ref (a 4)]) (RdQ (.int r)) 0 0 nof := by
  unfold f_X4_bestPlace at hf
  refine met_in (by decide) (Nat.le_of_ble_eq_true rfl) ?_
  intro p e s m args below meth c ls C hP hl
  have C : Cx p s m args meth c cX4_bestPlace 3 (some .int) RX4 D (tyL g) := C
  obtain ⟨hx, hb, hr, hml, hown, ht, hlocks, hK, hN⟩ := id C
  have hl : lv_has ls 3 [(0, .ref (a 4))] := hl
  refine lv_iconst (v := 0) hx hb dX4_bestPlace_0 (by decide) ?_
  refine lv_istore_n (lv' := [(1, .int 0), (0, .ref (a 4))]) hx hb dX4_bestPlace_1 rfl hl (by decide) rfl (fun ls hl => ?_)
  refine lv_iconst (v := 1) hx hb dX4_bestPlace_2 (by decide) ?_
  refine lv_istore_n (lv' := [(2, .int 1), (1, .int 0), (0, .ref (a 4))]) hx hb dX4_bestPlace_3 rfl hl (by decide) rfl (fun ls hl => ?_)
  exact w_X4_bestPlace_l4 C N M hP r N 0 1 ls (lv_sub hl [2, 1, 0] rfl) hf
set_option maxHeartbeats 4000000 in
set_option maxRecDepth 100000 in
theorem c_X4_areClear (l : Launch) (D : va_G) (g : Nat → ClassId) (a : Nat → Nat) (M : Mem) (x1 : Int32) (x2 : Int32) (r : Int32) (hf : f_X4_areClear M x1 x2 = some r) : Met l yX4_areClear (cW yX4_areClear cX4_areClear 3 (some .boolean)) (rmv 1 21) (Pw D (tyL g) (wC g a M) [.ref (a 4), .int x1, .int x2]) (RdQ (.int r)) 0 0 nof := by
  unfold f_X4_areClear at hf
  refine met_in (by decide) (Nat.le_of_ble_eq_true rfl) ?_
  intro p e s m args below meth c ls C hP hl
  have C : Cx p s m args meth c cX4_areClear 3 (some .boolean) RX4 D (tyL g) := C
  obtain ⟨hx, hb, hr, hml, hown, ht, hlocks, hK, hN⟩ := id C
  have hl : lv_has ls 3 [(0, .ref (a 4)), (1, .int x1), (2, .int x2)] := hl
  refine lv_aload_n hx hb dX4_areClear_0 rfl (lv_at hl 0 rfl) ?_
  refine fg_X4_18 C hP dX4_areClear_1 ?_
  refine fg_X4_67 C hP dX4_areClear_4 ?_
  refine lv_iload_n hx hb dX4_areClear_7 rfl (lv_at hl 1 rfl) ?_
  obtain ⟨h_1, hf⟩ := ifs hf
  refine va_iald hx hb hK hP 24 0 (aC_24 g a M) rfl h_1 dX4_areClear_8 ?_
  refine lv_aload_n hx hb dX4_areClear_9 rfl (lv_at hl 0 rfl) ?_
  refine fg_X4_18 C hP dX4_areClear_10 ?_
  refine fg_X4_67 C hP dX4_areClear_13 ?_
  refine lv_iload_n hx hb dX4_areClear_16 rfl (lv_at hl 2 rfl) ?_
  obtain ⟨h_2, hf⟩ := ifs hf
  refine va_iald hx hb hK hP 24 0 (aC_24 g a M) rfl h_2 dX4_areClear_17 ?_
  refine lv_isub hx hb dX4_areClear_18 ?_
  refine va_mabs hx hb (hml.trans hl.1.symm) hown (ht _ wd_488) (ht _ wd_401) (ht _ wd_14) (ht _ wd_402) (Nat.le_of_ble_eq_true rfl) (Nat.le_of_ble_eq_true rfl) (Nat.le_refl _) (Nat.le_refl _) dX4_areClear_19 ?_
  refine lv_iconst (v := 1) hx hb dX4_areClear_22 (by decide) ?_
  refine lv_icmp_gt (tgt := 52) hx hb dX4_areClear_23 (by decide) (fun c_3 => ?_) (fun c_3 => ?_)
  · have hf := ifp c_3 hf
    refine lv_iconst (v := 1) hx hb dX4_areClear_52 (by decide) ?_
    refine lv_goto (tgt := 57) hx hb dX4_areClear_53 (by decide) ?_
    obtain rfl := Option.some.inj hf
    exact retRz C (Or.inr rfl) dX4_areClear_57
  · have hf := ifn c_3 hf
    refine lv_aload_n hx hb dX4_areClear_26 rfl (lv_at hl 0 rfl) ?_
    refine fg_X4_18 C hP dX4_areClear_27 ?_
    refine fg_X4_73 C hP dX4_areClear_30 ?_
    refine lv_iload_n hx hb dX4_areClear_33 rfl (lv_at hl 1 rfl) ?_
    refine va_iald hx hb hK hP 25 0 (aC_25 g a M) rfl h_1 dX4_areClear_34 ?_
    refine lv_aload_n hx hb dX4_areClear_35 rfl (lv_at hl 0 rfl) ?_
    refine fg_X4_18 C hP dX4_areClear_36 ?_
    refine fg_X4_73 C hP dX4_areClear_39 ?_
    refine lv_iload_n hx hb dX4_areClear_42 rfl (lv_at hl 2 rfl) ?_
    refine va_iald hx hb hK hP 25 0 (aC_25 g a M) rfl h_2 dX4_areClear_43 ?_
    refine lv_isub hx hb dX4_areClear_44 ?_
    refine va_mabs hx hb (hml.trans hl.1.symm) hown (ht _ wd_488) (ht _ wd_401) (ht _ wd_14) (ht _ wd_402) (Nat.le_of_ble_eq_true rfl) (Nat.le_of_ble_eq_true rfl) (Nat.le_refl _) (Nat.le_refl _) dX4_areClear_45 ?_
    refine lv_iconst (v := 1) hx hb dX4_areClear_48 (by decide) ?_
    refine lv_icmp_le (tgt := 56) hx hb dX4_areClear_49 (by decide) (fun c_4 => ?_) (fun c_4 => ?_)
    · have hf := ifp c_4 hf
      refine lv_iconst (v := 0) hx hb dX4_areClear_56 (by decide) ?_
      obtain rfl := Option.some.inj hf
      exact retRz C (Or.inl rfl) dX4_areClear_57
    · have hf := ifn c_4 hf
      refine lv_iconst (v := 1) hx hb dX4_areClear_52 (by decide) ?_
      refine lv_goto (tgt := 57) hx hb dX4_areClear_53 (by decide) ?_
      obtain rfl := Option.some.inj hf
      exact retRz C (Or.inr rfl) dX4_areClear_57
set_option maxHeartbeats 4000000 in
set_option maxRecDepth 100000 in
theorem c_X4_takePair (l : Launch) (D : va_G) (g : Nat → ClassId) (a : Nat → Nat) (hJ : Inj a 41) (M : Mem) (x1 : Int32) (x2 : Int32) (x3 : Int32) (M' : Mem) (hf : f_X4_takePair M x1 x2 x3 = some M') : Met l yX4_takePair (cW yX4_takePair cX4_takePair 4 none) (rmv 0 0) (Pw D (tyL g) (wC g a M) [.ref (a 4), .int x1, .int x2, .int x3]) (WvQ D (wC g a M') (inA a 41)) 0 0 (inA a 41) := by
  unfold f_X4_takePair at hf
  refine met_inW (A := (inA a 41)) (by decide) (Nat.le_of_ble_eq_true rfl) ?_
  intro p e s m args below meth c ls H locs C hP hS hl
  have C : Cx p s m args meth c cX4_takePair 4 none RX4 D (tyL g) := C
  obtain ⟨hx, hb, hr, hml, hown, ht, hlocks, hK, hN⟩ := id C
  have hl : lv_has ls 4 [(0, .ref (a 4)), (1, .int x1), (2, .int x2), (3, .int x3)] := hl
  refine lv_aload_n hx hb dX4_takePair_0 rfl (lv_at hl 0 rfl) ?_
  refine fg_X4_56 C hP dX4_takePair_1 ?_
  refine lv_bipush (v := (-9)) hx hb dX4_takePair_4 (by decide) ?_
  refine lv_icmp_eq (tgt := 17) hx hb dX4_takePair_6 (by decide) (fun c_1 => ?_) (fun c_1 => ?_)
  · have hf := ifp c_1 hf
    refine lv_aload_n hx hb dX4_takePair_17 rfl (lv_at hl 0 rfl) ?_
    refine lv_iload_n hx hb dX4_takePair_18 rfl (lv_at hl 1 rfl) ?_
    refine fp_X4_50 C hP (wC_D hJ) hS dX4_takePair_19 (fun H locs hP hS => ?_)
    obtain ⟨M2, eM2, hf⟩ := nms hf
    have hP : va_P D clL (wC g a M2) H := by rw [eM2]; exact hP
    refine lv_aload_n hx hb dX4_takePair_22 rfl (lv_at hl 0 rfl) ?_
    refine lv_iload_n hx hb dX4_takePair_23 rfl (lv_at hl 2 rfl) ?_
    refine fp_X4_53 C hP (wC_D hJ) hS dX4_takePair_24 (fun H locs hP hS => ?_)
    obtain ⟨M3, eM3, hf⟩ := nms hf
    have hP : va_P D clL (wC g a M3) H := by rw [eM3]; exact hP
    refine lv_aload_n hx hb dX4_takePair_27 rfl (lv_at hl 0 rfl) ?_
    refine lv_iload_n hx hb dX4_takePair_28 rfl (lv_at hl 3 rfl) ?_
    refine fp_X4_56 C hP (wC_D hJ) hS dX4_takePair_29 (fun H locs hP hS => ?_)
    obtain ⟨M4, eM4, hf⟩ := nms hf
    have hP : va_P D clL (wC g a M4) H := by rw [eM4]; exact hP
    obtain rfl := Option.some.inj hf
    exact retWv C hP hS dX4_takePair_32
  · have hf := ifn c_1 hf
    refine lv_iload_n hx hb dX4_takePair_9 rfl (lv_at hl 3 rfl) ?_
    refine lv_aload_n hx hb dX4_takePair_10 rfl (lv_at hl 0 rfl) ?_
    refine fg_X4_56 C hP dX4_takePair_11 ?_
    refine lv_icmp_ge (tgt := 32) hx hb dX4_takePair_14 (by decide) (fun c_5 => ?_) (fun c_5 => ?_)
    · have hf := ifp c_5 hf
      obtain rfl := Option.some.inj hf
      exact retWv C hP hS dX4_takePair_32
    · have hf := ifn c_5 hf
      refine lv_aload_n hx hb dX4_takePair_17 rfl (lv_at hl 0 rfl) ?_
      refine lv_iload_n hx hb dX4_takePair_18 rfl (lv_at hl 1 rfl) ?_
      refine fp_X4_50 C hP (wC_D hJ) hS dX4_takePair_19 (fun H locs hP hS => ?_)
      obtain ⟨M6, eM6, hf⟩ := nms hf
      have hP : va_P D clL (wC g a M6) H := by rw [eM6]; exact hP
      refine lv_aload_n hx hb dX4_takePair_22 rfl (lv_at hl 0 rfl) ?_
      refine lv_iload_n hx hb dX4_takePair_23 rfl (lv_at hl 2 rfl) ?_
      refine fp_X4_53 C hP (wC_D hJ) hS dX4_takePair_24 (fun H locs hP hS => ?_)
      obtain ⟨M7, eM7, hf⟩ := nms hf
      have hP : va_P D clL (wC g a M7) H := by rw [eM7]; exact hP
      refine lv_aload_n hx hb dX4_takePair_27 rfl (lv_at hl 0 rfl) ?_
      refine lv_iload_n hx hb dX4_takePair_28 rfl (lv_at hl 3 rfl) ?_
      refine fp_X4_56 C hP (wC_D hJ) hS dX4_takePair_29 (fun H locs hP hS => ?_)
      obtain ⟨M8, eM8, hf⟩ := nms hf
      have hP : va_P D clL (wC g a M8) H := by rw [eM8]; exact hP
      obtain rfl := Option.some.inj hf
      exact retWv C hP hS dX4_takePair_32
set_option maxHeartbeats 4000000 in
set_option maxRecDepth 100000 in
theorem w_X4_findPair_l81 {p : Program} {l : Launch} {e : Env} {s : State} {m : MethodId} {args : Array Value} {below : List Frame} {meth : Method} {c : Code} {D : va_G} {g : Nat → ClassId} {a : Nat → Nat} (C : Cx p s m args meth c cX4_findPair 3 none RX4 D (tyL g)) (hJ : Inj a 41) (N : Nat) (x1 : Int32) (M' : Mem) (kc : Mem → Option (Mem)) (hkc : ∀ (M : Mem), ∀ (H : Heap) (locs : List Loc), va_P D clL (wC g a M) H → va_S (inA a 41) s.heap H locs → ∀ (ls : Array Slot), lv_has ls 3 [(0, .ref (a 4)), (1, .int x1)] → kc M = some M' → W p l e (rmv 2 46) s m args below meth c H locs 0 0 (MQ below (WvQ D (wC g a M') (inA a 41)) args s 0 0 (inA a 41)) (F0 m 148 ls [])) :
    ∀ (n : Nat) (M : Mem) (x2 : Int32), ∀ (H : Heap) (locs : List Loc), va_P D clL (wC g a M) H → va_S (inA a 41) s.heap H locs → ∀ (ls : Array Slot), lv_has ls 3 [(0, .ref (a 4)), (1, .int x1), (2, .int x2)] → f_X4_findPair_l81 kc N x1 n M x2 = some M' → W p l e (rmv 2 46) s m args below meth c H locs 0 0 (MQ below (WvQ D (wC g a M') (inA a 41)) args s 0 0 (inA a 41)) (F0 m 81 ls []) := by
  obtain ⟨hx, hb, hr, hml, hown, ht, hlocks, hK, hN⟩ := id C
  intro n
  induction n with
  | zero =>
    intro M x2 H locs hP hS ls hl hf
    exact nos hf
  | succ n ih =>
    intro M x2 H locs hP hS ls hl hf
    rw [f_X4_findPair_l81] at hf
    refine lv_iload_n hx hb dX4_findPair_81 rfl (lv_at hl 2 rfl) ?_
    refine lv_aload_n hx hb dX4_findPair_82 rfl (lv_at hl 0 rfl) ?_
    refine fg_X4_18 C hP dX4_findPair_83 ?_
    obtain ⟨r9, e_9, hf⟩ := bns hf
    refine kR (rV (rest := [.int x2]) C (c_X3_stones l D g a M r9 e_9) ok_X3_stones wd_473 hP 2 (aC_2 g a M) rfl ⟨rfl, rfl, Nat.le_of_ble_eq_true rfl, Nat.le_of_ble_eq_true rfl⟩ rfl hl.1 rfl (Nat.le_of_ble_eq_true rfl) dX4_findPair_86 ⟨Nat.le_of_ble_eq_true rfl, Nat.le_of_ble_eq_true rfl⟩) ?_
    refine lv_icmp_ge (tgt := 148) hx hb dX4_findPair_89 (by decide) (fun c_10 => ?_) (fun c_10 => ?_)
    · have hf := ifp c_10 hf
      exact hkc M H locs hP hS ls (lv_sub hl [0, 1] rfl) hf
    · have hf := ifn c_10 hf
      refine lv_aload_n hx hb dX4_findPair_92 rfl (lv_at hl 0 rfl) ?_
      refine fg_X4_15 C hP dX4_findPair_93 ?_
      refine lv_iload_n hx hb dX4_findPair_96 rfl (lv_at hl 1 rfl) ?_
      obtain ⟨h_11, hf⟩ := ifs hf
      refine va_iald hx hb hK hP 34 0 (aC_34 g a M) rfl h_11 dX4_findPair_97 ?_
      refine lv_bipush (v := (-9)) hx hb dX4_findPair_98 (by decide) ?_
      refine lv_icmp_eq (tgt := 142) hx hb dX4_findPair_100 (by decide) (fun c_12 => ?_) (fun c_12 => ?_)
      · have hf := ifp c_12 hf
        refine lv_iinc (v := (x2 + 1)) (lv' := [(2, .int (x2 + 1)), (0, .ref (a 4)), (1, .int x1)]) hx hb dX4_findPair_142 hl (k := 2) rfl rfl (by decide) rfl (fun ls hl => ?_)
        refine lv_goto (tgt := 81) hx hb dX4_findPair_145 (by decide) ?_
        exact ih M (x2 + 1) H locs hP hS ls (lv_sub hl [1, 2, 0] rfl) hf
      · have hf := ifn c_12 hf
        refine lv_aload_n hx hb dX4_findPair_103 rfl (lv_at hl 0 rfl) ?_
        refine fg_X4_15 C hP dX4_findPair_104 ?_
        refine lv_iload_n hx hb dX4_findPair_107 rfl (lv_at hl 2 rfl) ?_
        obtain ⟨h_13, hf⟩ := ifs hf
        refine va_iald hx hb hK hP 34 0 (aC_34 g a M) rfl h_13 dX4_findPair_108 ?_
        refine lv_bipush (v := (-9)) hx hb dX4_findPair_109 (by decide) ?_
        refine lv_icmp_eq (tgt := 142) hx hb dX4_findPair_111 (by decide) (fun c_14 => ?_) (fun c_14 => ?_)
        · have hf := ifp c_14 hf
          refine lv_iinc (v := (x2 + 1)) (lv' := [(2, .int (x2 + 1)), (0, .ref (a 4)), (1, .int x1)]) hx hb dX4_findPair_142 hl (k := 2) rfl rfl (by decide) rfl (fun ls hl => ?_)
          refine lv_goto (tgt := 81) hx hb dX4_findPair_145 (by decide) ?_
          exact ih M (x2 + 1) H locs hP hS ls (lv_sub hl [1, 2, 0] rfl) hf
        · have hf := ifn c_14 hf
          refine lv_aload_n hx hb dX4_findPair_114 rfl (lv_at hl 0 rfl) ?_
          refine lv_iload_n hx hb dX4_findPair_115 rfl (lv_at hl 1 rfl) ?_
          refine lv_iload_n hx hb dX4_findPair_116 rfl (lv_at hl 2 rfl) ?_
          obtain ⟨r15, e_15, hf⟩ := bns hf
          refine kR (rV (rest := []) C (c_X4_areClear l D g a M x1 x2 r15 e_15) ok_X4_areClear wd_484 hP 4 (aC_4 g a M) rfl ⟨rfl, rfl, Nat.le_of_ble_eq_true rfl, Nat.le_of_ble_eq_true rfl⟩ rfl hl.1 rfl (Nat.le_of_ble_eq_true rfl) dX4_findPair_117 ⟨Nat.le_of_ble_eq_true rfl, Nat.le_of_ble_eq_true rfl⟩) ?_
          refine lv_if_eq (tgt := 142) hx hb dX4_findPair_120 (by decide) (fun c_16 => ?_) (fun c_16 => ?_)
          · have hf := ifp c_16 hf
            refine lv_iinc (v := (x2 + 1)) (lv' := [(2, .int (x2 + 1)), (0, .ref (a 4)), (1, .int x1)]) hx hb dX4_findPair_142 hl (k := 2) rfl rfl (by decide) rfl (fun ls hl => ?_)
            refine lv_goto (tgt := 81) hx hb dX4_findPair_145 (by decide) ?_
            exact ih M (x2 + 1) H locs hP hS ls (lv_sub hl [1, 2, 0] rfl) hf
          · have hf := ifn c_16 hf
            refine lv_aload_n hx hb dX4_findPair_123 rfl (lv_at hl 0 rfl) ?_
            refine lv_iload_n hx hb dX4_findPair_124 rfl (lv_at hl 1 rfl) ?_
            refine lv_iload_n hx hb dX4_findPair_125 rfl (lv_at hl 2 rfl) ?_
            refine lv_aload_n hx hb dX4_findPair_126 rfl (lv_at hl 0 rfl) ?_
            refine fg_X4_15 C hP dX4_findPair_127 ?_
            refine lv_iload_n hx hb dX4_findPair_130 rfl (lv_at hl 1 rfl) ?_
            refine va_iald hx hb hK hP 34 0 (aC_34 g a M) rfl h_11 dX4_findPair_131 ?_
            refine lv_aload_n hx hb dX4_findPair_132 rfl (lv_at hl 0 rfl) ?_
            refine fg_X4_15 C hP dX4_findPair_133 ?_
            refine lv_iload_n hx hb dX4_findPair_136 rfl (lv_at hl 2 rfl) ?_
            refine va_iald hx hb hK hP 34 0 (aC_34 g a M) rfl h_13 dX4_findPair_137 ?_
            refine lv_iadd hx hb dX4_findPair_138 ?_
            obtain ⟨M17, e_17, hf⟩ := bns hf
            refine kWv (rV (rest := []) C (c_X4_takePair l D g a hJ M x1 x2 ((M 34 x1.toNatClampNeg) + (M 34 x2.toNatClampNeg)) M17 e_17) ok_X4_takePair wd_489 hP 4 (aC_4 g a M) rfl ⟨rfl, rfl, Nat.le_of_ble_eq_true rfl, Nat.le_of_ble_eq_true rfl⟩ rfl hl.1 rfl (Nat.le_of_ble_eq_true rfl) dX4_findPair_139 ⟨Nat.le_of_ble_eq_true rfl, Nat.le_of_ble_eq_true rfl⟩) hS (fun H locs hP hS => ?_)
            refine lv_iinc (v := (x2 + 1)) (lv' := [(2, .int (x2 + 1)), (0, .ref (a 4)), (1, .int x1)]) hx hb dX4_findPair_142 hl (k := 2) rfl rfl (by decide) rfl (fun ls hl => ?_)
            refine lv_goto (tgt := 81) hx hb dX4_findPair_145 (by decide) ?_
            exact ih M17 (x2 + 1) H locs hP hS ls (lv_sub hl [1, 2, 0] rfl) hf
set_option maxHeartbeats 4000000 in
set_option maxRecDepth 100000 in
theorem w_X4_findPair_l66 {p : Program} {l : Launch} {e : Env} {s : State} {m : MethodId} {args : Array Value} {below : List Frame} {meth : Method} {c : Code} {D : va_G} {g : Nat → ClassId} {a : Nat → Nat} (C : Cx p s m args meth c cX4_findPair 3 none RX4 D (tyL g)) (hJ : Inj a 41) (N : Nat) (M' : Mem) :
    ∀ (n : Nat) (M : Mem) (x1 : Int32), ∀ (H : Heap) (locs : List Loc), va_P D clL (wC g a M) H → va_S (inA a 41) s.heap H locs → ∀ (ls : Array Slot), lv_has ls 3 [(0, .ref (a 4)), (1, .int x1)] → f_X4_findPair_l66 N n M x1 = some M' → W p l e (rmv 2 46) s m args below meth c H locs 0 0 (MQ below (WvQ D (wC g a M') (inA a 41)) args s 0 0 (inA a 41)) (F0 m 66 ls []) := by
  obtain ⟨hx, hb, hr, hml, hown, ht, hlocks, hK, hN⟩ := id C
  intro n
  induction n with
  | zero =>
    intro M x1 H locs hP hS ls hl hf
    exact nos hf
  | succ n ih =>
    intro M x1 H locs hP hS ls hl hf
    rw [f_X4_findPair_l66] at hf
    refine lv_iload_n hx hb dX4_findPair_66 rfl (lv_at hl 1 rfl) ?_
    refine lv_aload_n hx hb dX4_findPair_67 rfl (lv_at hl 0 rfl) ?_
    refine fg_X4_18 C hP dX4_findPair_68 ?_
    obtain ⟨r6, e_6, hf⟩ := bns hf
    refine kR (rV (rest := [.int x1]) C (c_X3_stones l D g a M r6 e_6) ok_X3_stones wd_473 hP 2 (aC_2 g a M) rfl ⟨rfl, rfl, Nat.le_of_ble_eq_true rfl, Nat.le_of_ble_eq_true rfl⟩ rfl hl.1 rfl (Nat.le_of_ble_eq_true rfl) dX4_findPair_71 ⟨Nat.le_of_ble_eq_true rfl, Nat.le_of_ble_eq_true rfl⟩) ?_
    refine lv_icmp_ge (tgt := 154) hx hb dX4_findPair_74 (by decide) (fun c_7 => ?_) (fun c_7 => ?_)
    · have hf := ifp c_7 hf
      obtain rfl := Option.some.inj hf
      exact retWv C hP hS dX4_findPair_154
    · have hf := ifn c_7 hf
      refine lv_iload_n hx hb dX4_findPair_77 rfl (lv_at hl 1 rfl) ?_
      refine lv_iconst (v := 1) hx hb dX4_findPair_78 (by decide) ?_
      refine lv_iadd hx hb dX4_findPair_79 ?_
      refine lv_topi (fun z8 ez8 => ?_)
      have hf := nmr ez8 hf
      refine lv_istore_n (lv' := [(2, .int z8), (0, .ref (a 4)), (1, .int x1)]) hx hb dX4_findPair_80 rfl hl (by decide) rfl (fun ls hl => ?_)
      refine w_X4_findPair_l81 C hJ N x1 M' _ (fun M18 H locs hP hS ls hl hf => ?_) N M z8 H locs hP hS ls (lv_sub hl [1, 2, 0] rfl) hf
      refine lv_iinc (v := (x1 + 1)) (lv' := [(1, .int (x1 + 1)), (0, .ref (a 4))]) hx hb dX4_findPair_148 hl (k := 1) rfl rfl (by decide) rfl (fun ls hl => ?_)
      refine lv_goto (tgt := 66) hx hb dX4_findPair_151 (by decide) ?_
      exact ih M18 (x1 + 1) H locs hP hS ls (lv_sub hl [1, 0] rfl) hf
set_option maxHeartbeats 4000000 in
set_option maxRecDepth 100000 in
theorem w_X4_findPair_l20 {p : Program} {l : Launch} {e : Env} {s : State} {m : MethodId} {args : Array Value} {below : List Frame} {meth : Method} {c : Code} {D : va_G} {g : Nat → ClassId} {a : Nat → Nat} (C : Cx p s m args meth c cX4_findPair 3 none RX4 D (tyL g)) (hJ : Inj a 41) (N : Nat) (M' : Mem) :
    ∀ (n : Nat) (M : Mem) (x1 : Int32), ∀ (H : Heap) (locs : List Loc), va_P D clL (wC g a M) H → va_S (inA a 41) s.heap H locs → ∀ (ls : Array Slot), lv_has ls 3 [(0, .ref (a 4)), (1, .int x1)] → f_X4_findPair_l20 N n M x1 = some M' → W p l e (rmv 2 46) s m args below meth c H locs 0 0 (MQ below (WvQ D (wC g a M') (inA a 41)) args s 0 0 (inA a 41)) (F0 m 20 ls []) := by
  obtain ⟨hx, hb, hr, hml, hown, ht, hlocks, hK, hN⟩ := id C
  intro n
  induction n with
  | zero =>
    intro M x1 H locs hP hS ls hl hf
    exact nos hf
  | succ n ih =>
    intro M x1 H locs hP hS ls hl hf
    rw [f_X4_findPair_l20] at hf
    refine lv_iload_n hx hb dX4_findPair_20 rfl (lv_at hl 1 rfl) ?_
    refine lv_aload_n hx hb dX4_findPair_21 rfl (lv_at hl 0 rfl) ?_
    refine fg_X4_18 C hP dX4_findPair_22 ?_
    obtain ⟨r4, e_4, hf⟩ := bns hf
    refine kR (rV (rest := [.int x1]) C (c_X3_stones l D g a M r4 e_4) ok_X3_stones wd_473 hP 2 (aC_2 g a M) rfl ⟨rfl, rfl, Nat.le_of_ble_eq_true rfl, Nat.le_of_ble_eq_true rfl⟩ rfl hl.1 rfl (Nat.le_of_ble_eq_true rfl) dX4_findPair_25 ⟨Nat.le_of_ble_eq_true rfl, Nat.le_of_ble_eq_true rfl⟩) ?_
    refine lv_icmp_ge (tgt := 64) hx hb dX4_findPair_28 (by decide) (fun c_5 => ?_) (fun c_5 => ?_)
    · have hf := ifp c_5 hf
      refine lv_iconst (v := 0) hx hb dX4_findPair_64 (by decide) ?_
      refine lv_istore_n (lv' := [(1, .int 0), (0, .ref (a 4))]) hx hb dX4_findPair_65 rfl hl (by decide) rfl (fun ls hl => ?_)
      exact w_X4_findPair_l66 C hJ N M' N M 0 H locs hP hS ls (lv_sub hl [1, 0] rfl) hf
    · have hf := ifn c_5 hf
      refine lv_aload_n hx hb dX4_findPair_31 rfl (lv_at hl 0 rfl) ?_
      refine fg_X4_15 C hP dX4_findPair_32 ?_
      refine lv_iload_n hx hb dX4_findPair_35 rfl (lv_at hl 1 rfl) ?_
      refine lv_aload_n hx hb dX4_findPair_36 rfl (lv_at hl 0 rfl) ?_
      refine fg_X4_18 C hP dX4_findPair_37 ?_
      refine lv_iload_n hx hb dX4_findPair_40 rfl (lv_at hl 1 rfl) ?_
      obtain ⟨r19, e_19, hf⟩ := bns hf
      refine kR (rV (rest := [.int x1, .ref (a 34)]) C (c_X3_hasStall l D g a M x1 r19 e_19) ok_X3_hasStall wd_474 hP 2 (aC_2 g a M) rfl ⟨rfl, rfl, Nat.le_of_ble_eq_true rfl, Nat.le_of_ble_eq_true rfl⟩ rfl hl.1 rfl (Nat.le_of_ble_eq_true rfl) dX4_findPair_41 ⟨Nat.le_of_ble_eq_true rfl, Nat.le_of_ble_eq_true rfl⟩) ?_
      refine lv_if_eq (tgt := 55) hx hb dX4_findPair_44 (by decide) (fun c_20 => ?_) (fun c_20 => ?_)
      · have hf := ifp c_20 hf
        refine lv_bipush (v := (-9)) hx hb dX4_findPair_55 (by decide) ?_
        obtain ⟨h_21, hf⟩ := ifs hf
        refine ast (wC g a) C hP (wC_D hJ) hS 34 0 (aC_34 g a M) rfl (sC_34 g a M) h_21 dX4_findPair_57 (fun H locs hP hS => ?_)
        obtain ⟨M22, eM22, hf⟩ := nms hf
        have hP : va_P D clL (wC g a M22) H := by rw [eM22]; exact hP
        refine lv_iinc (v := (x1 + 1)) (lv' := [(1, .int (x1 + 1)), (0, .ref (a 4))]) hx hb dX4_findPair_58 hl (k := 1) rfl rfl (by decide) rfl (fun ls hl => ?_)
        refine lv_goto (tgt := 20) hx hb dX4_findPair_61 (by decide) ?_
        exact ih M22 (x1 + 1) H locs hP hS ls (lv_sub hl [1, 0] rfl) hf
      · have hf := ifn c_20 hf
        refine lv_aload_n hx hb dX4_findPair_47 rfl (lv_at hl 0 rfl) ?_
        refine lv_iload_n hx hb dX4_findPair_48 rfl (lv_at hl 1 rfl) ?_
        obtain ⟨r23, e_23, hf⟩ := bns hf
        refine kR (rV (rest := [.int x1, .ref (a 34)]) C (c_X4_wedgesAt l D g a M x1 r23 e_23) ok_X4_wedgesAt wd_475 hP 4 (aC_4 g a M) rfl ⟨rfl, rfl, Nat.le_of_ble_eq_true rfl, Nat.le_of_ble_eq_true rfl⟩ rfl hl.1 rfl (Nat.le_of_ble_eq_true rfl) dX4_findPair_49 ⟨Nat.le_of_ble_eq_true rfl, Nat.le_of_ble_eq_true rfl⟩) ?_
        refine lv_goto (tgt := 57) hx hb dX4_findPair_52 (by decide) ?_
        obtain ⟨h_24, hf⟩ := ifs hf
        refine ast (wC g a) C hP (wC_D hJ) hS 34 0 (aC_34 g a M) rfl (sC_34 g a M) h_24 dX4_findPair_57 (fun H locs hP hS => ?_)
        obtain ⟨M25, eM25, hf⟩ := nms hf
        have hP : va_P D clL (wC g a M25) H := by rw [eM25]; exact hP
        refine lv_iinc (v := (x1 + 1)) (lv' := [(1, .int (x1 + 1)), (0, .ref (a 4))]) hx hb dX4_findPair_58 hl (k := 1) rfl rfl (by decide) rfl (fun ls hl => ?_)
        refine lv_goto (tgt := 20) hx hb dX4_findPair_61 (by decide) ?_
        exact ih M25 (x1 + 1) H locs hP hS ls (lv_sub hl [1, 0] rfl) hf
set_option maxHeartbeats 4000000 in
set_option maxRecDepth 100000 in
theorem c_X4_findPair (l : Launch) (D : va_G) (g : Nat → ClassId) (a : Nat → Nat) (hJ : Inj a 41) (N : Nat) (M : Mem) (M' : Mem) (hf : f_X4_findPair N M = some M') : Met l yX4_findPair (cW yX4_findPair cX4_findPair 3 none) (rmv 2 46) (Pw D (tyL g) (wC g a M) [.ref (a 4)]) (WvQ D (wC g a M') (inA a 41)) 0 0 (inA a 41) := by
  unfold f_X4_findPair at hf
  refine met_inW (A := (inA a 41)) (by decide) (Nat.le_of_ble_eq_true rfl) ?_
  intro p e s m args below meth c ls H locs C hP hS hl
  have C : Cx p s m args meth c cX4_findPair 3 none RX4 D (tyL g) := C
  obtain ⟨hx, hb, hr, hml, hown, ht, hlocks, hK, hN⟩ := id C
  have hl : lv_has ls 3 [(0, .ref (a 4))] := hl
  refine lv_aload_n hx hb dX4_findPair_0 rfl (lv_at hl 0 rfl) ?_
  refine lv_bipush (v := (-9)) hx hb dX4_findPair_1 (by decide) ?_
  refine fp_X4_50 C hP (wC_D hJ) hS dX4_findPair_3 (fun H locs hP hS => ?_)
  obtain ⟨M1, eM1, hf⟩ := nms hf
  have hP : va_P D clL (wC g a M1) H := by rw [eM1]; exact hP
  refine lv_aload_n hx hb dX4_findPair_6 rfl (lv_at hl 0 rfl) ?_
  refine lv_bipush (v := (-9)) hx hb dX4_findPair_7 (by decide) ?_
  refine fp_X4_53 C hP (wC_D hJ) hS dX4_findPair_9 (fun H locs hP hS => ?_)
  obtain ⟨M2, eM2, hf⟩ := nms hf
  have hP : va_P D clL (wC g a M2) H := by rw [eM2]; exact hP
  refine lv_aload_n hx hb dX4_findPair_12 rfl (lv_at hl 0 rfl) ?_
  refine lv_bipush (v := (-9)) hx hb dX4_findPair_13 (by decide) ?_
  refine fp_X4_56 C hP (wC_D hJ) hS dX4_findPair_15 (fun H locs hP hS => ?_)
  obtain ⟨M3, eM3, hf⟩ := nms hf
  have hP : va_P D clL (wC g a M3) H := by rw [eM3]; exact hP
  refine lv_iconst (v := 0) hx hb dX4_findPair_18 (by decide) ?_
  refine lv_istore_n (lv' := [(1, .int 0), (0, .ref (a 4))]) hx hb dX4_findPair_19 rfl hl (by decide) rfl (fun ls hl => ?_)
  exact w_X4_findPair_l20 C hJ N M' N M3 0 H locs hP hS ls (lv_sub hl [1, 0] rfl) hf
set_option maxHeartbeats 4000000 in
set_option maxRecDepth 100000 in
theorem c_X4_sizeOf (l : Launch) (D : va_G) (g : Nat → ClassId) (a : Nat → Nat) (M : Mem) (x1 : Int32) (x2 : Int32) (r : Int32) (hf : f_X4_sizeOf M x1 x2 = some r) : Met l yX4_sizeOf (cW yX4_sizeOf cX4_sizeOf 4 (some .int)) (rmv 0 0) (Pw D (tyL g) (wC g a M) [.ref (a 4), .int x1, .int x2]) (RdQ (.int r)) 0 0 nof := by
  unfold f_X4_sizeOf at hf
  refine met_in (by decide) (Nat.le_of_ble_eq_true rfl) ?_
  intro p e s m args below meth c ls C hP hl
  have C : Cx p s m args meth c cX4_sizeOf 4 (some .int) RX4 D (tyL g) := C
  obtain ⟨hx, hb, hr, hml, hown, ht, hlocks, hK, hN⟩ := id C
  have hl : lv_has ls 4 [(0, .ref (a 4)), (1, .int x1), (2, .int x2)] := hl
  refine lv_aload_n hx hb dX4_sizeOf_0 rfl (lv_at hl 0 rfl) ?_
  refine fg_X4_18 C hP dX4_sizeOf_1 ?_
  refine fg_X4_73 C hP dX4_sizeOf_4 ?_
  refine lv_iload_n hx hb dX4_sizeOf_7 rfl (lv_at hl 2 rfl) ?_
  obtain ⟨h_1, hf⟩ := ifs hf
  refine va_iald hx hb hK hP 25 0 (aC_25 g a M) rfl h_1 dX4_sizeOf_8 ?_
  refine lv_aload_n hx hb dX4_sizeOf_9 rfl (lv_at hl 0 rfl) ?_
  refine fg_X4_18 C hP dX4_sizeOf_10 ?_
  refine fg_X4_73 C hP dX4_sizeOf_13 ?_
  refine lv_iload_n hx hb dX4_sizeOf_16 rfl (lv_at hl 1 rfl) ?_
  obtain ⟨h_2, hf⟩ := ifs hf
  refine va_iald hx hb hK hP 25 0 (aC_25 g a M) rfl h_2 dX4_sizeOf_17 ?_
  refine lv_isub hx hb dX4_sizeOf_18 ?_
  refine lv_iconst (v := 1) hx hb dX4_sizeOf_19 (by decide) ?_
  refine lv_iadd hx hb dX4_sizeOf_20 ?_
  refine lv_topi (fun z3 ez3 => ?_)
  have hf := nmr ez3 hf
  refine lv_istore_n (lv' := [(3, .int z3), (0, .ref (a 4)), (1, .int x1), (2, .int x2)]) hx hb dX4_sizeOf_21 rfl hl (by decide) rfl (fun ls hl => ?_)
  refine lv_iload_n hx hb dX4_sizeOf_22 rfl (lv_at hl 0 rfl) ?_
  refine lv_aload_n hx hb dX4_sizeOf_23 rfl (lv_at hl 1 rfl) ?_
  refine fg_X4_18 C hP dX4_sizeOf_24 ?_
  refine fg_X4_67 C hP dX4_sizeOf_27 ?_
  refine lv_iload_n hx hb dX4_sizeOf_30 rfl (lv_at hl 3 rfl) ?_
  refine va_iald hx hb hK hP 24 0 (aC_24 g a M) rfl h_1 dX4_sizeOf_31 ?_
  refine lv_aload_n hx hb dX4_sizeOf_32 rfl (lv_at hl 1 rfl) ?_
  refine fg_X4_18 C hP dX4_sizeOf_33 ?_
  refine fg_X4_67 C hP dX4_sizeOf_36 ?_
  refine lv_iload_n hx hb dX4_sizeOf_39 rfl (lv_at hl 2 rfl) ?_
  refine va_iald hx hb hK hP 24 0 (aC_24 g a M) rfl h_2 dX4_sizeOf_40 ?_
  refine lv_isub hx hb dX4_sizeOf_41 ?_
  refine lv_iconst (v := 1) hx hb dX4_sizeOf_42 (by decide) ?_
  refine lv_iadd hx hb dX4_sizeOf_43 ?_
  refine lv_imul hx hb dX4_sizeOf_44 ?_
  obtain rfl := Option.some.inj hf
  exact retR C dX4_sizeOf_45
set_option maxHeartbeats 4000000 in
set_option maxRecDepth 100000 in
theorem w_X4_spread_l18 {p : Program} {l : Launch} {e : Env} {s : State} {m : MethodId} {args : Array Value} {below : List Frame} {meth : Method} {c : Code} {D : va_G} {g : Nat → ClassId} {a : Nat → Nat} (C : Cx p s m args meth c cX4_spread 6 (some .int) RX4 D (tyL g)) (N : Nat) (M : Mem) (hP : va_P D clL (wC g a M) s.heap) (x1 : Int32) (x2 : Int32) (r : Int32) :
    ∀ (n : Nat) (x3 : Int32) (x4 : Int32) (x5 : Int32), ∀ (ls : Array Slot), lv_has ls 6 [(0, .ref (a 4)), (1, .int x1), (2, .int x2), (3, .int x3), (4, .int x4), (5, .int x5)] → f_X4_spread_l18 N M x1 x2 n x3 x4 x5 = some r → W p l e (rmv 1 21) s m args below meth c s.heap [] 0 0 (MQ below (RdQ (.int r)) args s 0 0 nof) (F0 m 18 ls []) := by
  obtain ⟨hx, hb, hr, hml, hown, ht, hlocks, hK, hN⟩ := id C
  intro n
  induction n with
  | zero =>
    intro x3 x4 x5 ls hl hf
    exact nos hf
  | succ n ih =>
    intro x3 x4 x5 ls hl hf
    rw [f_X4_spread_l18] at hf
    refine lv_iload hx hb dX4_spread_18 (lv_at hl 5 rfl) ?_
    refine lv_iload_n hx hb dX4_spread_20 rfl (lv_at hl 2 rfl) ?_
    refine lv_icmp_gt (tgt := 100) hx hb dX4_spread_21 (by decide) (fun c_4 => ?_) (fun c_4 => ?_)
    · have hf := ifp c_4 hf
      refine lv_iload hx hb dX4_spread_100 (lv_at hl 4 rfl) ?_
      refine lv_iload_n hx hb dX4_spread_102 rfl (lv_at hl 3 rfl) ?_
      refine lv_isub hx hb dX4_spread_103 ?_
      obtain rfl := Option.some.inj hf
      exact retR C dX4_spread_104
    · have hf := ifn c_4 hf
      refine lv_aload_n hx hb dX4_spread_24 rfl (lv_at hl 0 rfl) ?_
      refine fg_X4_18 C hP dX4_spread_25 ?_
      refine fg_X4_73 C hP dX4_spread_28 ?_
      refine lv_iload hx hb dX4_spread_31 (lv_at hl 5 rfl) ?_
      obtain ⟨h_5, hf⟩ := ifs hf
      refine va_iald hx hb hK hP 25 0 (aC_25 g a M) rfl h_5 dX4_spread_33 ?_
      refine lv_aload_n hx hb dX4_spread_34 rfl (lv_at hl 0 rfl) ?_
      refine fg_X4_18 C hP dX4_spread_35 ?_
      refine fg_X4_73 C hP dX4_spread_38 ?_
      refine lv_iload_n hx hb dX4_spread_41 rfl (lv_at hl 1 rfl) ?_
      obtain ⟨h_6, hf⟩ := ifs hf
      refine va_iald hx hb hK hP 25 0 (aC_25 g a M) rfl h_6 dX4_spread_42 ?_
      refine lv_icmp_lt (tgt := 94) hx hb dX4_spread_43 (by decide) (fun c_7 => ?_) (fun c_7 => ?_)
      · have hf := ifp c_7 hf
        refine lv_iinc (v := (x5 + 1)) (lv' := [(5, .int (x5 + 1)), (0, .ref (a 4)), (1, .int x1), (2, .int x2), (3, .int x3), (4, .int x4)]) hx hb dX4_spread_94 hl (k := 5) rfl rfl (by decide) rfl (fun ls hl => ?_)
        refine lv_goto (tgt := 18) hx hb dX4_spread_97 (by decide) ?_
        exact ih x3 x4 (x5 + 1) ls (lv_sub hl [1, 2, 3, 4, 5, 0] rfl) hf
      · have hf := ifn c_7 hf
        refine lv_aload_n hx hb dX4_spread_46 rfl (lv_at hl 0 rfl) ?_
        refine fg_X4_18 C hP dX4_spread_47 ?_
        refine fg_X4_73 C hP dX4_spread_50 ?_
        refine lv_iload hx hb dX4_spread_53 (lv_at hl 5 rfl) ?_
        refine va_iald hx hb hK hP 25 0 (aC_25 g a M) rfl h_5 dX4_spread_55 ?_
        refine lv_aload_n hx hb dX4_spread_56 rfl (lv_at hl 0 rfl) ?_
        refine fg_X4_18 C hP dX4_spread_57 ?_
        refine fg_X4_73 C hP dX4_spread_60 ?_
        refine lv_iload_n hx hb dX4_spread_63 rfl (lv_at hl 2 rfl) ?_
        obtain ⟨h_8, hf⟩ := ifs hf
        refine va_iald hx hb hK hP 25 0 (aC_25 g a M) rfl h_8 dX4_spread_64 ?_
        refine lv_icmp_gt (tgt := 94) hx hb dX4_spread_65 (by decide) (fun c_9 => ?_) (fun c_9 => ?_)
        · have hf := ifp c_9 hf
          refine lv_iinc (v := (x5 + 1)) (lv' := [(5, .int (x5 + 1)), (0, .ref (a 4)), (1, .int x1), (2, .int x2), (3, .int x3), (4, .int x4)]) hx hb dX4_spread_94 hl (k := 5) rfl rfl (by decide) rfl (fun ls hl => ?_)
          refine lv_goto (tgt := 18) hx hb dX4_spread_97 (by decide) ?_
          exact ih x3 x4 (x5 + 1) ls (lv_sub hl [1, 2, 3, 4, 5, 0] rfl) hf
        · have hf := ifn c_9 hf
          refine lv_iload_n hx hb dX4_spread_68 rfl (lv_at hl 3 rfl) ?_
          refine lv_aload_n hx hb dX4_spread_69 rfl (lv_at hl 0 rfl) ?_
          refine fg_X4_9 C hP dX4_spread_70 ?_
          refine lv_iload hx hb dX4_spread_73 (lv_at hl 5 rfl) ?_
          refine va_iald hx hb hK hP 33 0 (aC_33 g a M) rfl h_5 dX4_spread_75 ?_
          refine va_mmin hx hb (hml.trans hl.1.symm) hown (ht _ wd_509) (ht _ wd_440) (ht _ wd_14) (ht _ wd_441) (Nat.le_of_ble_eq_true rfl) (Nat.le_of_ble_eq_true rfl) (Nat.le_refl _) (Nat.le_refl _) dX4_spread_76 ?_
          refine lv_topi (fun z10 ez10 => ?_)
          have hf := nmr ez10 hf
          refine lv_istore_n (lv' := [(3, .int z10), (0, .ref (a 4)), (1, .int x1), (2, .int x2), (4, .int x4), (5, .int x5)]) hx hb dX4_spread_79 rfl hl (by decide) rfl (fun ls hl => ?_)
          refine lv_iload hx hb dX4_spread_80 (lv_at hl 4 rfl) ?_
          refine lv_aload_n hx hb dX4_spread_82 rfl (lv_at hl 1 rfl) ?_
          refine fg_X4_9 C hP dX4_spread_83 ?_
          refine lv_iload hx hb dX4_spread_86 (lv_at hl 5 rfl) ?_
          refine va_iald hx hb hK hP 33 0 (aC_33 g a M) rfl h_5 dX4_spread_88 ?_
          refine va_mmax hx hb (hml.trans hl.1.symm) hown (ht _ wd_460) (ht _ wd_404) (ht _ wd_14) (ht _ wd_405) (Nat.le_of_ble_eq_true rfl) (Nat.le_of_ble_eq_true rfl) (Nat.le_refl _) (Nat.le_refl _) dX4_spread_89 ?_
          refine lv_topi (fun z11 ez11 => ?_)
          have hf := nmr ez11 hf
          refine lv_istore (lv' := [(4, .int z11), (3, .int z10), (0, .ref (a 4)), (1, .int x1), (2, .int x2), (5, .int x5)]) hx hb dX4_spread_92 hl (by decide) rfl (fun ls hl => ?_)
          refine lv_iinc (v := (x5 + 1)) (lv' := [(5, .int (x5 + 1)), (4, .int z11), (3, .int z10), (0, .ref (a 4)), (1, .int x1), (2, .int x2)]) hx hb dX4_spread_94 hl (k := 5) rfl rfl (by decide) rfl (fun ls hl => ?_)
          refine lv_goto (tgt := 18) hx hb dX4_spread_97 (by decide) ?_
          exact ih z10 z11 (x5 + 1) ls (lv_sub hl [3, 4, 5, 2, 1, 0] rfl) hf
set_option maxHeartbeats 4000000 in
set_option maxRecDepth 100000 in
theorem c_X4_spread (l : Launch) (D : va_G) (g : Nat → ClassId) (a : Nat → Nat) (N : Nat) (M : Mem) (x1 : Int32) (x2 : Int32) (r : Int32) (hf : f_X4_spread N M x1 x2 = some r) : Met l yX4_spread (cW yX4_spread cX4_spread 6 (some .int)) (rmv 1 21) (Pw D (tyL g) (wC g a M) [.ref (a 4), .int x1, .int x2]) (RdQ (.int r)) 0 0 nof := by
  unfold f_X4_spread at hf
  refine met_in (by decide) (Nat.le_of_ble_eq_true rfl) ?_
  intro p e s m args below meth c ls C hP hl
  have C : Cx p s m args meth c cX4_spread 6 (some .int) RX4 D (tyL g) := C
  obtain ⟨hx, hb, hr, hml, hown, ht, hlocks, hK, hN⟩ := id C
  have hl : lv_has ls 6 [(0, .ref (a 4)), (1, .int x1), (2, .int x2)] := hl
  refine lv_aload_n hx hb dX4_spread_0 rfl (lv_at hl 0 rfl) ?_
  refine fg_X4_9 C hP dX4_spread_1 ?_
  refine lv_iload_n hx hb dX4_spread_4 rfl (lv_at hl 1 rfl) ?_
  obtain ⟨h_1, hf⟩ := ifs hf
  refine va_iald hx hb hK hP 33 0 (aC_33 g a M) rfl h_1 dX4_spread_5 ?_
  refine lv_topi (fun z2 ez2 => ?_)
  have hf := nmr ez2 hf
  refine lv_istore_n (lv' := [(3, .int z2), (0, .ref (a 4)), (1, .int x1), (2, .int x2)]) hx hb dX4_spread_6 rfl hl (by decide) rfl (fun ls hl => ?_)
  refine lv_aload_n hx hb dX4_spread_7 rfl (lv_at hl 1 rfl) ?_
  refine fg_X4_9 C hP dX4_spread_8 ?_
  refine lv_iload_n hx hb dX4_spread_11 rfl (lv_at hl 2 rfl) ?_
  refine va_iald hx hb hK hP 33 0 (aC_33 g a M) rfl h_1 dX4_spread_12 ?_
  refine lv_topi (fun z3 ez3 => ?_)
  have hf := nmr ez3 hf
  refine lv_istore (lv' := [(4, .int z3), (3, .int z2), (0, .ref (a 4)), (1, .int x1), (2, .int x2)]) hx hb dX4_spread_13 hl (by decide) rfl (fun ls hl => ?_)
  refine lv_iload_n hx hb dX4_spread_15 rfl (lv_at hl 3 rfl) ?_
  refine lv_istore (lv' := [(5, .int x1), (4, .int z3), (3, .int z2), (0, .ref (a 4)), (1, .int x1), (2, .int x2)]) hx hb dX4_spread_16 hl (by decide) rfl (fun ls hl => ?_)
  exact w_X4_spread_l18 C N M hP x1 x2 r N z2 z3 x1 ls (lv_sub hl [3, 4, 5, 2, 1, 0] rfl) hf
set_option maxHeartbeats 4000000 in
set_option maxRecDepth 100000 in
theorem w_X4_findOval_l30 {p : Program} {l : Launch} {e : Env} {s : State} {m : MethodId} {args : Array Value} {below : List Frame} {meth : Method} {c : Code} {D : va_G} {g : Nat → ClassId} {a : Nat → Nat} (C : Cx p s m args meth c cX4_findOval 5 none RX4 D (tyL g)) (hJ : Inj a 41) (N : Nat) (x1 : Int32) (x2 : Int32) (M' : Mem) (kc : Mem → Option (Mem)) (hkc : ∀ (M : Mem), ∀ (H : Heap) (locs : List Loc), va_P D clL (wC g a M) H → va_S (inA a 41) s.heap H locs → ∀ (ls : Array Slot), lv_has ls 5 [(0, .ref (a 4)), (1, .int x1), (2, .int x2)] → kc M = some M' → W p l e (rmv 2 46) s m args below meth c H locs 0 0 (MQ below (WvQ D (wC g a M') (inA a 41)) args s 0 0 (inA a 41)) (F0 m 90 ls [])) :
    ∀ (n : Nat) (M : Mem) (x3 : Int32), ∀ (H : Heap) (locs : List Loc), va_P D clL (wC g a M) H → va_S (inA a 41) s.heap H locs → ∀ (ls : Array Slot), lv_has ls 5 [(0, .ref (a 4)), (1, .int x1), (2, .int x2), (3, .int x3)] → f_X4_findOval_l30 kc N x1 x2 n M x3 = some M' → W p l e (rmv 2 46) s m args below meth c H locs 0 0 (MQ below (WvQ D (wC g a M') (inA a 41)) args s 0 0 (inA a 41)) (F0 m 30 ls []) := by
  obtain ⟨hx, hb, hr, hml, hown, ht, hlocks, hK, hN⟩ := id C
  intro n
  induction n with
  | zero =>
    intro M x3 H locs hP hS ls hl hf
    exact nos hf
  | succ n ih =>
    intro M x3 H locs hP hS ls hl hf
    rw [f_X4_findOval_l30] at hf
    refine lv_iload_n hx hb dX4_findOval_30 rfl (lv_at hl 3 rfl) ?_
    refine lv_aload_n hx hb dX4_findOval_31 rfl (lv_at hl 0 rfl) ?_
    refine fg_X4_18 C hP dX4_findOval_32 ?_
    obtain ⟨r6, e_6, hf⟩ := bns hf
    refine kR (rV (rest := [.int x3]) C (c_X3_stones l D g a M r6 e_6) ok_X3_stones wd_473 hP 2 (aC_2 g a M) rfl ⟨rfl, rfl, Nat.le_of_ble_eq_true rfl, Nat.le_of_ble_eq_true rfl⟩ rfl hl.1 rfl (Nat.le_of_ble_eq_true rfl) dX4_findOval_35 ⟨Nat.le_of_ble_eq_true rfl, Nat.le_of_ble_eq_true rfl⟩) ?_
    refine lv_icmp_ge (tgt := 90) hx hb dX4_findOval_38 (by decide) (fun c_7 => ?_) (fun c_7 => ?_)
    · have hf := ifp c_7 hf
      exact hkc M H locs hP hS ls (lv_sub hl [0, 1, 2] rfl) hf
    · have hf := ifn c_7 hf
      refine lv_aload_n hx hb dX4_findOval_41 rfl (lv_at hl 0 rfl) ?_
      refine lv_iload_n hx hb dX4_findOval_42 rfl (lv_at hl 2 rfl) ?_
      refine lv_iload_n hx hb dX4_findOval_43 rfl (lv_at hl 3 rfl) ?_
      obtain ⟨r8, e_8, hf⟩ := bns hf
      refine kR (rV (rest := []) C (c_X4_sizeOf l D g a M x2 x3 r8 e_8) ok_X4_sizeOf wd_501 hP 4 (aC_4 g a M) rfl ⟨rfl, rfl, Nat.le_of_ble_eq_true rfl, Nat.le_of_ble_eq_true rfl⟩ rfl hl.1 rfl (Nat.le_of_ble_eq_true rfl) dX4_findOval_44 ⟨Nat.le_of_ble_eq_true rfl, Nat.le_of_ble_eq_true rfl⟩) ?_
      refine lv_istore (lv' := [(4, .int r8), (0, .ref (a 4)), (1, .int x1), (2, .int x2), (3, .int x3)]) hx hb dX4_findOval_47 hl (by decide) rfl (fun ls hl => ?_)
      refine lv_iload hx hb dX4_findOval_49 (lv_at hl 0 rfl) ?_
      refine lv_aload_n hx hb dX4_findOval_51 rfl (lv_at hl 1 rfl) ?_
      refine fg_X4_56 C hP dX4_findOval_52 ?_
      refine lv_icmp_le (tgt := 84) hx hb dX4_findOval_55 (by decide) (fun c_9 => ?_) (fun c_9 => ?_)
      · have hf := ifp c_9 hf
        refine lv_iinc (v := (x3 + 1)) (lv' := [(3, .int (x3 + 1)), (4, .int r8), (0, .ref (a 4)), (1, .int x1), (2, .int x2)]) hx hb dX4_findOval_84 hl (k := 4) rfl rfl (by decide) rfl (fun ls hl => ?_)
        refine lv_goto (tgt := 30) hx hb dX4_findOval_87 (by decide) ?_
        exact ih M (x3 + 1) H locs hP hS ls (lv_sub hl [2, 3, 4, 0] rfl) hf
      · have hf := ifn c_9 hf
        refine lv_aload_n hx hb dX4_findOval_58 rfl (lv_at hl 1 rfl) ?_
        refine lv_iload_n hx hb dX4_findOval_59 rfl (lv_at hl 3 rfl) ?_
        refine lv_iload_n hx hb dX4_findOval_60 rfl (lv_at hl 4 rfl) ?_
        obtain ⟨r10, e_10, hf⟩ := bns hf
        refine kR (rV (rest := []) C (c_X4_spread l D g a N M x2 x3 r10 e_10) ok_X4_spread wd_505 hP 4 (aC_4 g a M) rfl ⟨rfl, rfl, Nat.le_of_ble_eq_true rfl, Nat.le_of_ble_eq_true rfl⟩ rfl hl.1 rfl (Nat.le_of_ble_eq_true rfl) dX4_findOval_61 ⟨Nat.le_of_ble_eq_true rfl, Nat.le_of_ble_eq_true rfl⟩) ?_
        refine lv_iload_n hx hb dX4_findOval_64 rfl (lv_at hl 2 rfl) ?_
        refine lv_icmp_gt (tgt := 84) hx hb dX4_findOval_65 (by decide) (fun c_11 => ?_) (fun c_11 => ?_)
        · have hf := ifp c_11 hf
          refine lv_iinc (v := (x3 + 1)) (lv' := [(3, .int (x3 + 1)), (4, .int r8), (0, .ref (a 4)), (1, .int x1), (2, .int x2)]) hx hb dX4_findOval_84 hl (k := 4) rfl rfl (by decide) rfl (fun ls hl => ?_)
          refine lv_goto (tgt := 30) hx hb dX4_findOval_87 (by decide) ?_
          exact ih M (x3 + 1) H locs hP hS ls (lv_sub hl [2, 3, 4, 0] rfl) hf
        · have hf := ifn c_11 hf
          refine lv_aload_n hx hb dX4_findOval_68 rfl (lv_at hl 1 rfl) ?_
          refine lv_iload_n hx hb dX4_findOval_69 rfl (lv_at hl 3 rfl) ?_
          refine fp_X4_50 C hP (wC_D hJ) hS dX4_findOval_70 (fun H locs hP hS => ?_)
          obtain ⟨M12, eM12, hf⟩ := nms hf
          have hP : va_P D clL (wC g a M12) H := by rw [eM12]; exact hP
          refine lv_aload_n hx hb dX4_findOval_73 rfl (lv_at hl 1 rfl) ?_
          refine lv_iload_n hx hb dX4_findOval_74 rfl (lv_at hl 4 rfl) ?_
          refine fp_X4_53 C hP (wC_D hJ) hS dX4_findOval_75 (fun H locs hP hS => ?_)
          obtain ⟨M13, eM13, hf⟩ := nms hf
          have hP : va_P D clL (wC g a M13) H := by rw [eM13]; exact hP
          refine lv_aload_n hx hb dX4_findOval_78 rfl (lv_at hl 1 rfl) ?_
          refine lv_iload hx hb dX4_findOval_79 (lv_at hl 0 rfl) ?_
          refine fp_X4_56 C hP (wC_D hJ) hS dX4_findOval_81 (fun H locs hP hS => ?_)
          obtain ⟨M14, eM14, hf⟩ := nms hf
          have hP : va_P D clL (wC g a M14) H := by rw [eM14]; exact hP
          refine lv_iinc (v := (x3 + 1)) (lv' := [(3, .int (x3 + 1)), (4, .int r8), (0, .ref (a 4)), (1, .int x1), (2, .int x2)]) hx hb dX4_findOval_84 hl (k := 4) rfl rfl (by decide) rfl (fun ls hl => ?_)
          refine lv_goto (tgt := 30) hx hb dX4_findOval_87 (by decide) ?_
          exact ih M14 (x3 + 1) H locs hP hS ls (lv_sub hl [2, 3, 4, 0] rfl) hf
set_option maxHeartbeats 4000000 in
set_option maxRecDepth 100000 in
theorem w_X4_findOval_l17 {p : Program} {l : Launch} {e : Env} {s : State} {m : MethodId} {args : Array Value} {below : List Frame} {meth : Method} {c : Code} {D : va_G} {g : Nat → ClassId} {a : Nat → Nat} (C : Cx p s m args meth c cX4_findOval 5 none RX4 D (tyL g)) (hJ : Inj a 41) (N : Nat) (x1 : Int32) (M' : Mem) :
    ∀ (n : Nat) (M : Mem) (x2 : Int32), ∀ (H : Heap) (locs : List Loc), va_P D clL (wC g a M) H → va_S (inA a 41) s.heap H locs → ∀ (ls : Array Slot), lv_has ls 5 [(0, .ref (a 4)), (1, .int x1), (2, .int x2)] → f_X4_findOval_l17 N x1 n M x2 = some M' → W p l e (rmv 2 46) s m args below meth c H locs 0 0 (MQ below (WvQ D (wC g a M') (inA a 41)) args s 0 0 (inA a 41)) (F0 m 17 ls []) := by
  obtain ⟨hx, hb, hr, hml, hown, ht, hlocks, hK, hN⟩ := id C
  intro n
  induction n with
  | zero =>
    intro M x2 H locs hP hS ls hl hf
    exact nos hf
  | succ n ih =>
    intro M x2 H locs hP hS ls hl hf
    rw [f_X4_findOval_l17] at hf
    refine lv_iload_n hx hb dX4_findOval_17 rfl (lv_at hl 2 rfl) ?_
    refine lv_aload_n hx hb dX4_findOval_18 rfl (lv_at hl 0 rfl) ?_
    refine fg_X4_18 C hP dX4_findOval_19 ?_
    obtain ⟨r4, e_4, hf⟩ := bns hf
    refine kR (rV (rest := [.int x2]) C (c_X3_stones l D g a M r4 e_4) ok_X3_stones wd_473 hP 2 (aC_2 g a M) rfl ⟨rfl, rfl, Nat.le_of_ble_eq_true rfl, Nat.le_of_ble_eq_true rfl⟩ rfl hl.1 rfl (Nat.le_of_ble_eq_true rfl) dX4_findOval_22 ⟨Nat.le_of_ble_eq_true rfl, Nat.le_of_ble_eq_true rfl⟩) ?_
    refine lv_icmp_ge (tgt := 96) hx hb dX4_findOval_25 (by decide) (fun c_5 => ?_) (fun c_5 => ?_)
    · have hf := ifp c_5 hf
      obtain rfl := Option.some.inj hf
      exact retWv C hP hS dX4_findOval_96
    · have hf := ifn c_5 hf
      refine lv_iload_n hx hb dX4_findOval_28 rfl (lv_at hl 2 rfl) ?_
      refine lv_istore_n (lv' := [(3, .int x2), (0, .ref (a 4)), (1, .int x1), (2, .int x2)]) hx hb dX4_findOval_29 rfl hl (by decide) rfl (fun ls hl => ?_)
      refine w_X4_findOval_l30 C hJ N x1 x2 M' _ (fun M15 H locs hP hS ls hl hf => ?_) N M x2 H locs hP hS ls (lv_sub hl [1, 2, 3, 0] rfl) hf
      refine lv_iinc (v := (x2 + 1)) (lv' := [(2, .int (x2 + 1)), (0, .ref (a 4)), (1, .int x1)]) hx hb dX4_findOval_90 hl (k := 2) rfl rfl (by decide) rfl (fun ls hl => ?_)
      refine lv_goto (tgt := 17) hx hb dX4_findOval_93 (by decide) ?_
      exact ih M15 (x2 + 1) H locs hP hS ls (lv_sub hl [1, 2, 0] rfl) hf
set_option maxHeartbeats 4000000 in
set_option maxRecDepth 100000 in
theorem c_X4_findOval (l : Launch) (D : va_G) (g : Nat → ClassId) (a : Nat → Nat) (hJ : Inj a 41) (N : Nat) (M : Mem) (x1 : Int32) (M' : Mem) (hf : f_X4_findOval N M x1 = some M') : Met l yX4_findOval (cW yX4_findOval cX4_findOval 5 none) (rmv 2 46) (Pw D (tyL g) (wC g a M) [.ref (a 4), .int x1]) (WvQ D (wC g a M') (inA a 41)) 0 0 (inA a 41) := by
  unfold f_X4_findOval at hf
  refine met_inW (A := (inA a 41)) (by decide) (Nat.le_of_ble_eq_true rfl) ?_
  intro p e s m args below meth c ls H locs C hP hS hl
  have C : Cx p s m args meth c cX4_findOval 5 none RX4 D (tyL g) := C
  obtain ⟨hx, hb, hr, hml, hown, ht, hlocks, hK, hN⟩ := id C
  have hl : lv_has ls 5 [(0, .ref (a 4)), (1, .int x1)] := hl
  refine lv_aload_n hx hb dX4_findOval_0 rfl (lv_at hl 0 rfl) ?_
  refine lv_iconst (v := 0) hx hb dX4_findOval_1 (by decide) ?_
  refine fp_X4_50 C hP (wC_D hJ) hS dX4_findOval_2 (fun H locs hP hS => ?_)
  obtain ⟨M1, eM1, hf⟩ := nms hf
  have hP : va_P D clL (wC g a M1) H := by rw [eM1]; exact hP
  refine lv_aload_n hx hb dX4_findOval_5 rfl (lv_at hl 0 rfl) ?_
  refine lv_iconst (v := 0) hx hb dX4_findOval_6 (by decide) ?_
  refine fp_X4_53 C hP (wC_D hJ) hS dX4_findOval_7 (fun H locs hP hS => ?_)
  obtain ⟨M2, eM2, hf⟩ := nms hf
  have hP : va_P D clL (wC g a M2) H := by rw [eM2]; exact hP
  refine lv_aload_n hx hb dX4_findOval_10 rfl (lv_at hl 0 rfl) ?_
  refine lv_iconst (v := 1) hx hb dX4_findOval_11 (by decide) ?_
  refine fp_X4_56 C hP (wC_D hJ) hS dX4_findOval_12 (fun H locs hP hS => ?_)
  obtain ⟨M3, eM3, hf⟩ := nms hf
  have hP : va_P D clL (wC g a M3) H := by rw [eM3]; exact hP
  refine lv_iconst (v := 0) hx hb dX4_findOval_15 (by decide) ?_
  refine lv_istore_n (lv' := [(2, .int 0), (0, .ref (a 4)), (1, .int x1)]) hx hb dX4_findOval_16 rfl hl (by decide) rfl (fun ls hl => ?_)
  exact w_X4_findOval_l17 C hJ N x1 M' N M3 0 H locs hP hS ls (lv_sub hl [1, 2, 0] rfl) hf
set_option maxHeartbeats 4000000 in
set_option maxRecDepth 100000 in
theorem c_X5_isFull (l : Launch) (D : va_G) (g : Nat → ClassId) (a : Nat → Nat) (M : Mem) (r : Int32) (hf : f_X5_isFull M = some r) : Met l yX5_isFull (cW yX5_isFull cX5_isFull 1 (some .boolean)) (rmv 0 0) (Pw D (tyL g) (wC g a M) [.ref (a 7)]) (RdQ (.int r)) 0 0 nof := by
  unfold f_X5_isFull at hf
  refine met_in (by decide) (Nat.le_of_ble_eq_true rfl) ?_
  intro p e s m args below meth c ls C hP hl
  have C : Cx p s m args meth c cX5_isFull 1 (some .boolean) RX5 D (tyL g) := C
  obtain ⟨hx, hb, hr, hml, hown, ht, hlocks, hK, hN⟩ := id C
  have hl : lv_has ls 1 [(0, .ref (a 7))] := hl
  refine lv_aload_n hx hb dX5_isFull_0 rfl (lv_at hl 0 rfl) ?_
  refine fg_X5_25 C hP dX5_isFull_1 ?_
  refine lv_bipush (v := 10) hx hb dX5_isFull_4 (by decide) ?_
  refine lv_icmp_lt (tgt := 13) hx hb dX5_isFull_6 (by decide) (fun c_1 => ?_) (fun c_1 => ?_)
  · have hf := ifp c_1 hf
    refine lv_iconst (v := 0) hx hb dX5_isFull_13 (by decide) ?_
    obtain rfl := Option.some.inj hf
    exact retRz C (Or.inl rfl) dX5_isFull_14
  · have hf := ifn c_1 hf
    refine lv_iconst (v := 1) hx hb dX5_isFull_9 (by decide) ?_
    refine lv_goto (tgt := 14) hx hb dX5_isFull_10 (by decide) ?_
    obtain rfl := Option.some.inj hf
    exact retRz C (Or.inr rfl) dX5_isFull_14
set_option maxHeartbeats 4000000 in
set_option maxRecDepth 100000 in
theorem c_X5_take (l : Launch) (D : va_G) (g : Nat → ClassId) (a : Nat → Nat) (hJ : Inj a 41) (M : Mem) (x1 : Int32) (x2 : Int32) (x3 : Int32) (r : Int32) (M' : Mem) (hf : f_X5_take M x1 x2 x3 = some (r, M')) : Met l yX5_take (cW yX5_take cX5_take 4 (some .int)) (rmv 0 0) (Pw D (tyL g) (wC g a M) [.ref (a 7), .int x1, .int x2, .int x3]) (WrQ D (wC g a M') (inA a 41) (.int r)) 0 0 (inA a 41) := by
  unfold f_X5_take at hf
  refine met_inW (A := (inA a 41)) (by decide) (Nat.le_of_ble_eq_true rfl) ?_
  intro p e s m args below meth c ls H locs C hP hS hl
  have C : Cx p s m args meth c cX5_take 4 (some .int) RX5 D (tyL g) := C
  obtain ⟨hx, hb, hr, hml, hown, ht, hlocks, hK, hN⟩ := id C
  have hl : lv_has ls 4 [(0, .ref (a 7)), (1, .int x1), (2, .int x2), (3, .int x3)] := hl
  refine lv_aload_n hx hb dX5_take_0 rfl (lv_at hl 0 rfl) ?_
  refine fg_X5_9 C hP dX5_take_1 ?_
  refine lv_aload_n hx hb dX5_take_4 rfl (lv_at hl 0 rfl) ?_
  refine fg_X5_25 C hP dX5_take_5 ?_
  refine lv_iload_n hx hb dX5_take_8 rfl (lv_at hl 1 rfl) ?_
  obtain ⟨h_1, hf⟩ := ifs hf
  refine ast (wC g a) C hP (wC_D hJ) hS 38 0 (aC_38 g a M) rfl (sC_38 g a M) h_1 dX5_take_9 (fun H locs hP hS => ?_)
  obtain ⟨M2, eM2, hf⟩ := nms hf
  have hP : va_P D clL (wC g a M2) H := by rw [eM2]; exact hP
  refine lv_aload_n hx hb dX5_take_10 rfl (lv_at hl 0 rfl) ?_
  refine fg_X5_15 C hP dX5_take_11 ?_
  refine lv_aload_n hx hb dX5_take_14 rfl (lv_at hl 0 rfl) ?_
  refine fg_X5_25 C hP dX5_take_15 ?_
  refine lv_iload_n hx hb dX5_take_18 rfl (lv_at hl 2 rfl) ?_
  obtain ⟨h_3, hf⟩ := ifs hf
  refine ast (wC g a) C hP (wC_D hJ) hS 39 0 (aC_39 g a M2) rfl (sC_39 g a M2) h_3 dX5_take_19 (fun H locs hP hS => ?_)
  obtain ⟨M4, eM4, hf⟩ := nms hf
  have hP : va_P D clL (wC g a M4) H := by rw [eM4]; exact hP
  refine lv_aload_n hx hb dX5_take_20 rfl (lv_at hl 0 rfl) ?_
  refine fg_X5_18 C hP dX5_take_21 ?_
  refine lv_aload_n hx hb dX5_take_24 rfl (lv_at hl 0 rfl) ?_
  refine fg_X5_25 C hP dX5_take_25 ?_
  refine lv_iload_n hx hb dX5_take_28 rfl (lv_at hl 3 rfl) ?_
  obtain ⟨h_5, hf⟩ := ifs hf
  refine ast (wC g a) C hP (wC_D hJ) hS 40 0 (aC_40 g a M4) rfl (sC_40 g a M4) h_5 dX5_take_29 (fun H locs hP hS => ?_)
  obtain ⟨M6, eM6, hf⟩ := nms hf
  have hP : va_P D clL (wC g a M6) H := by rw [eM6]; exact hP
  refine lv_aload_n hx hb dX5_take_30 rfl (lv_at hl 0 rfl) ?_
  refine lv_dup hx hb dX5_take_31 rfl ?_
  refine fg_X5_25 C hP dX5_take_32 ?_
  refine lv_iconst (v := 1) hx hb dX5_take_35 (by decide) ?_
  refine lv_iadd hx hb dX5_take_36 ?_
  refine fp_X5_25 C hP (wC_D hJ) hS dX5_take_37 (fun H locs hP hS => ?_)
  obtain ⟨M7, eM7, hf⟩ := nms hf
  have hP : va_P D clL (wC g a M7) H := by rw [eM7]; exact hP
  refine lv_aload_n hx hb dX5_take_40 rfl (lv_at hl 0 rfl) ?_
  refine fg_X5_25 C hP dX5_take_41 ?_
  refine lv_iconst (v := 1) hx hb dX5_take_44 (by decide) ?_
  refine lv_isub hx hb dX5_take_45 ?_
  obtain ⟨rfl, rfl⟩ := Prod.mk.inj (Option.some.inj hf)
  exact retW C hP hS dX5_take_46
set_option maxHeartbeats 4000000 in
set_option maxRecDepth 100000 in
theorem c_X5_takeBack (l : Launch) (D : va_G) (g : Nat → ClassId) (a : Nat → Nat) (hJ : Inj a 41) (M : Mem) (x1 : Int32) (r : Int32) (M' : Mem) (hf : f_X5_takeBack M x1 = some (r, M')) : Met l yX5_takeBack (cW yX5_takeBack cX5_takeBack 2 (some .int)) (rmv 0 0) (Pw D (tyL g) (wC g a M) [.ref (a 7), .int x1]) (WrQ D (wC g a M') (inA a 41) (.int r)) 0 0 (inA a 41) := by
  unfold f_X5_takeBack at hf
  refine met_inW (A := (inA a 41)) (by decide) (Nat.le_of_ble_eq_true rfl) ?_
  intro p e s m args below meth c ls H locs C hP hS hl
  have C : Cx p s m args meth c cX5_takeBack 2 (some .int) RX5 D (tyL g) := C
  obtain ⟨hx, hb, hr, hml, hown, ht, hlocks, hK, hN⟩ := id C
  have hl : lv_has ls 2 [(0, .ref (a 7)), (1, .int x1)] := hl
  refine lv_aload_n hx hb dX5_takeBack_0 rfl (lv_at hl 0 rfl) ?_
  refine lv_dup hx hb dX5_takeBack_1 rfl ?_
  refine fg_X5_25 C hP dX5_takeBack_2 ?_
  refine lv_iload_n hx hb dX5_takeBack_5 rfl (lv_at hl 1 rfl) ?_
  refine lv_isub hx hb dX5_takeBack_6 ?_
  refine fp_X5_25 C hP (wC_D hJ) hS dX5_takeBack_7 (fun H locs hP hS => ?_)
  obtain ⟨M1, eM1, hf⟩ := nms hf
  have hP : va_P D clL (wC g a M1) H := by rw [eM1]; exact hP
  refine lv_aload_n hx hb dX5_takeBack_10 rfl (lv_at hl 0 rfl) ?_
  refine fg_X5_25 C hP dX5_takeBack_11 ?_
  obtain ⟨rfl, rfl⟩ := Prod.mk.inj (Option.some.inj hf)
  exact retW C hP hS dX5_takeBack_14
set_option maxHeartbeats 4000000 in
set_option maxRecDepth 100000 in
theorem w_X5_areAllSo_l2 {p : Program} {l : Launch} {e : Env} {s : State} {m : MethodId} {args : Array Value} {below : List Frame} {meth : Method} {c : Code} {D : va_G} {g : Nat → ClassId} {a : Nat → Nat} (C : Cx p s m args meth c cX5_areAllSo 4 (some .boolean) RX5 D (tyL g)) (N : Nat) (M : Mem) (hP : va_P D clL (wC g a M) s.heap) (x1 : Int32) (x2 : Int32) (r : Int32) :
    ∀ (n : Nat) (x3 : Int32), ∀ (ls : Array Slot), lv_has ls 4 [(0, .ref (a 7)), (1, .int x1), (2, .int x2), (3, .int x3)] → f_X5_areAllSo_l2 N M x1 x2 n x3 = some r → W p l e (rmv 3 67) s m args below meth c s.heap [] 0 0 (MQ below (RdQ (.int r)) args s 0 0 nof) (F0 m 2 ls []) := by
  obtain ⟨hx, hb, hr, hml, hown, ht, hlocks, hK, hN⟩ := id C
  intro n
  induction n with
  | zero =>
    intro x3 ls hl hf
    exact nos hf
  | succ n ih =>
    intro x3 ls hl hf
    rw [f_X5_areAllSo_l2] at hf
    refine lv_iload_n hx hb dX5_areAllSo_2 rfl (lv_at hl 3 rfl) ?_
    refine lv_aload_n hx hb dX5_areAllSo_3 rfl (lv_at hl 0 rfl) ?_
    refine fg_X5_25 C hP dX5_areAllSo_4 ?_
    refine lv_icmp_ge (tgt := 52) hx hb dX5_areAllSo_7 (by decide) (fun c_1 => ?_) (fun c_1 => ?_)
    · have hf := ifp c_1 hf
      refine lv_iconst (v := 1) hx hb dX5_areAllSo_52 (by decide) ?_
      obtain rfl := Option.some.inj hf
      exact retRz C (Or.inr rfl) dX5_areAllSo_53
    · have hf := ifn c_1 hf
      refine lv_aload_n hx hb dX5_areAllSo_10 rfl (lv_at hl 0 rfl) ?_
      refine fg_X5_9 C hP dX5_areAllSo_11 ?_
      refine lv_iload_n hx hb dX5_areAllSo_14 rfl (lv_at hl 3 rfl) ?_
      obtain ⟨h_2, hf⟩ := ifs hf
      refine va_iald hx hb hK hP 38 0 (aC_38 g a M) rfl h_2 dX5_areAllSo_15 ?_
      refine lv_iload_n hx hb dX5_areAllSo_16 rfl (lv_at hl 1 rfl) ?_
      refine lv_icmp_ne (tgt := 46) hx hb dX5_areAllSo_17 (by decide) (fun c_3 => ?_) (fun c_3 => ?_)
      · have hf := ifn c_3 hf
        refine lv_iinc (v := (x3 + 1)) (lv' := [(3, .int (x3 + 1)), (0, .ref (a 7)), (1, .int x1), (2, .int x2)]) hx hb dX5_areAllSo_46 hl (k := 3) rfl rfl (by decide) rfl (fun ls hl => ?_)
        refine lv_goto (tgt := 2) hx hb dX5_areAllSo_49 (by decide) ?_
        exact ih (x3 + 1) ls (lv_sub hl [1, 2, 3, 0] rfl) hf
      · have hf := ifp c_3 hf
        refine lv_aload_n hx hb dX5_areAllSo_20 rfl (lv_at hl 0 rfl) ?_
        refine fg_X5_21 C hP dX5_areAllSo_21 ?_
        refine lv_iload_n hx hb dX5_areAllSo_24 rfl (lv_at hl 2 rfl) ?_
        refine lv_iload_n hx hb dX5_areAllSo_25 rfl (lv_at hl 1 rfl) ?_
        refine lv_aload_n hx hb dX5_areAllSo_26 rfl (lv_at hl 0 rfl) ?_
        refine fg_X5_15 C hP dX5_areAllSo_27 ?_
        refine lv_iload_n hx hb dX5_areAllSo_30 rfl (lv_at hl 3 rfl) ?_
        refine va_iald hx hb hK hP 39 0 (aC_39 g a M) rfl h_2 dX5_areAllSo_31 ?_
        obtain ⟨r4, e_4, hf⟩ := bns hf
        refine kR (rV (rest := []) C (c_X3_heightAs l D g a M x2 x1 (M 39 x3.toNatClampNeg) r4 e_4) ok_X3_heightAs wd_621 hP 2 (aC_2 g a M) rfl ⟨rfl, rfl, Nat.le_of_ble_eq_true rfl, Nat.le_of_ble_eq_true rfl⟩ rfl hl.1 rfl (Nat.le_of_ble_eq_true rfl) dX5_areAllSo_32 ⟨Nat.le_of_ble_eq_true rfl, Nat.le_of_ble_eq_true rfl⟩) ?_
        refine lv_aload_n hx hb dX5_areAllSo_35 rfl (lv_at hl 0 rfl) ?_
        refine fg_X5_18 C hP dX5_areAllSo_36 ?_
        refine lv_iload_n hx hb dX5_areAllSo_39 rfl (lv_at hl 3 rfl) ?_
        refine va_iald hx hb hK hP 40 0 (aC_40 g a M) rfl h_2 dX5_areAllSo_40 ?_
        refine lv_icmp_eq (tgt := 46) hx hb dX5_areAllSo_41 (by decide) (fun c_5 => ?_) (fun c_5 => ?_)
        · have hf := ifp c_5 hf
          refine lv_iinc (v := (x3 + 1)) (lv' := [(3, .int (x3 + 1)), (0, .ref (a 7)), (1, .int x1), (2, .int x2)]) hx hb dX5_areAllSo_46 hl (k := 3) rfl rfl (by decide) rfl (fun ls hl => ?_)
          refine lv_goto (tgt := 2) hx hb dX5_areAllSo_49 (by decide) ?_
          exact ih (x3 + 1) ls (lv_sub hl [1, 2, 3, 0] rfl) hf
        · have hf := ifn c_5 hf
          refine lv_iconst (v := 0) hx hb dX5_areAllSo_44 (by decide) ?_
          obtain rfl := Option.some.inj hf
          exact retRz C (Or.inl rfl) dX5_areAllSo_45
set_option maxHeartbeats 4000000 in
set_option maxRecDepth 100000 in
theorem c_X5_areAllSo (l : Launch) (D : va_G) (g : Nat → ClassId) (a : Nat → Nat) (N : Nat) (M : Mem) (x1 : Int32) (x2 : Int32) (r : Int32) (hf : f_X5_areAllSo N M x1 x2 = some r) : Met l yX5_areAllSo (cW yX5_areAllSo cX5_areAllSo 4 (some .boolean)) (rmv 3 67) (Pw D (tyL g) (wC g a M) [.ref (a 7), .int x1, .int x2]) (RdQ (.int r)) 0 0 nof := by
  unfold f_X5_areAllSo at hf
  refine met_in (by decide) (Nat.le_of_ble_eq_true rfl) ?_
  intro p e s m args below meth c ls C hP hl
  have C : Cx p s m args meth c cX5_areAllSo 4 (some .boolean) RX5 D (tyL g) := C
  obtain ⟨hx, hb, hr, hml, hown, ht, hlocks, hK, hN⟩ := id C
  have hl : lv_has ls 4 [(0, .ref (a 7)), (1, .int x1), (2, .int x2)] := hl
  refine lv_iconst (v := 0) hx hb dX5_areAllSo_0 (by decide) ?_
  refine lv_istore_n (lv' := [(3, .int 0), (0, .ref (a 7)), (1, .int x1), (2, .int x2)]) hx hb dX5_areAllSo_1 rfl hl (by decide) rfl (fun ls hl => ?_)
  exact w_X5_areAllSo_l2 C N M hP x1 x2 r N 0 ls (lv_sub hl [1, 2, 3, 0] rfl) hf
set_option maxHeartbeats 4000000 in
set_option maxRecDepth 100000 in
theorem w_X5_kindsOf_l4 {p : Program} {l : Launch} {e : Env} {s : State} {m : MethodId} {args : Array Value} {below : List Frame} {meth : Method} {c : Code} {D : va_G} {g : Nat → ClassId} {a : Nat → Nat} (C : Cx p s m args meth c cX5_kindsOf 4 (some .int) RX5 D (tyL g)) (N : Nat) (M : Mem) (hP : va_P D clL (wC g a M) s.heap) (x1 : Int32) (r : Int32) :
    ∀ (n : Nat) (x2 : Int32) (x3 : Int32), ∀ (ls : Array Slot), lv_has ls 4 [(0, .ref (a 7)), (1, .int x1), (2, .int x2), (3, .int x3)] → f_X5_kindsOf_l4 N M x1 n x2 x3 = some r → W p l e (rmv 4 90) s m args below meth c s.heap [] 0 0 (MQ below (RdQ (.int r)) args s 0 0 nof) (F0 m 4 ls []) := by
  obtain ⟨hx, hb, hr, hml, hown, ht, hlocks, hK, hN⟩ := id C
  intro n
  induction n with
  | zero =>
    intro x2 x3 ls hl hf
    exact nos hf
  | succ n ih =>
    intro x2 x3 ls hl hf
    rw [f_X5_kindsOf_l4] at hf
    refine lv_iload_n hx hb dX5_kindsOf_4 rfl (lv_at hl 3 rfl) ?_
    refine lv_iconst (v := 3) hx hb dX5_kindsOf_5 (by decide) ?_
    refine lv_icmp_ge (tgt := 30) hx hb dX5_kindsOf_6 (by decide) (fun c_1 => ?_) (fun c_1 => ?_)
    · have hf := ifp c_1 hf
      refine lv_iload_n hx hb dX5_kindsOf_30 rfl (lv_at hl 2 rfl) ?_
      obtain rfl := Option.some.inj hf
      exact retR C dX5_kindsOf_31
    · have hf := ifn c_1 hf
      refine lv_aload_n hx hb dX5_kindsOf_9 rfl (lv_at hl 0 rfl) ?_
      refine lv_iload_n hx hb dX5_kindsOf_10 rfl (lv_at hl 1 rfl) ?_
      refine lv_iload_n hx hb dX5_kindsOf_11 rfl (lv_at hl 3 rfl) ?_
      obtain ⟨r2, e_2, hf⟩ := bns hf
      refine kR (rV (rest := []) C (c_X5_areAllSo l D g a N M x1 x3 r2 e_2) ok_X5_areAllSo wd_617 hP 7 (aC_7 g a M) rfl ⟨rfl, rfl, Nat.le_of_ble_eq_true rfl, Nat.le_of_ble_eq_true rfl⟩ rfl hl.1 rfl (Nat.le_of_ble_eq_true rfl) dX5_kindsOf_12 ⟨Nat.le_of_ble_eq_true rfl, Nat.le_of_ble_eq_true rfl⟩) ?_
      refine lv_if_eq (tgt := 24) hx hb dX5_kindsOf_15 (by decide) (fun c_3 => ?_) (fun c_3 => ?_)
      · have hf := ifp c_3 hf
        refine lv_iinc (v := (x3 + 1)) (lv' := [(3, .int (x3 + 1)), (0, .ref (a 7)), (1, .int x1), (2, .int x2)]) hx hb dX5_kindsOf_24 hl (k := 3) rfl rfl (by decide) rfl (fun ls hl => ?_)
        refine lv_goto (tgt := 4) hx hb dX5_kindsOf_27 (by decide) ?_
        exact ih x2 (x3 + 1) ls (lv_sub hl [1, 2, 3, 0] rfl) hf
      · have hf := ifn c_3 hf
        refine lv_iload_n hx hb dX5_kindsOf_18 rfl (lv_at hl 2 rfl) ?_
        refine lv_iconst (v := 1) hx hb dX5_kindsOf_19 (by decide) ?_
        refine lv_iload_n hx hb dX5_kindsOf_20 rfl (lv_at hl 3 rfl) ?_
        refine lv_ishl hx hb dX5_kindsOf_21 ?_
        refine lv_ior hx hb dX5_kindsOf_22 ?_
        refine lv_topi (fun z4 ez4 => ?_)
        have hf := nmr ez4 hf
        refine lv_istore_n (lv' := [(2, .int z4), (0, .ref (a 7)), (1, .int x1), (3, .int x3)]) hx hb dX5_kindsOf_23 rfl hl (by decide) rfl (fun ls hl => ?_)
        refine lv_iinc (v := (x3 + 1)) (lv' := [(3, .int (x3 + 1)), (2, .int z4), (0, .ref (a 7)), (1, .int x1)]) hx hb dX5_kindsOf_24 hl (k := 3) rfl rfl (by decide) rfl (fun ls hl => ?_)
        refine lv_goto (tgt := 4) hx hb dX5_kindsOf_27 (by decide) ?_
        exact ih z4 (x3 + 1) ls (lv_sub hl [2, 3, 1, 0] rfl) hf
set_option maxHeartbeats 4000000 in
set_option maxRecDepth 100000 in
theorem c_X5_kindsOf (l : Launch) (D : va_G) (g : Nat → ClassId) (a : Nat → Nat) (N : Nat) (M : Mem) (x1 : Int32) (r : Int32) (hf : f_X5_kindsOf N M x1 = some r) : Met l yX5_kindsOf (cW yX5_kindsOf cX5_kindsOf 4 (some .int)) (rmv 4 90) (Pw D (tyL g) (wC g a M) [.ref (a 7), .int x1]) (RdQ (.int r)) 0 0 nof := by
  unfold f_X5_kindsOf at hf
  refine met_in (by decide) (Nat.le_of_ble_eq_true rfl) ?_
  intro p e s m args below meth c ls C hP hl
  have C : Cx p s m args meth c cX5_kindsOf 4 (some .int) RX5 D (tyL g) := C
  obtain ⟨hx, hb, hr, hml, hown, ht, hlocks, hK, hN⟩ := id C
  have hl : lv_has ls 4 [(0, .ref (a 7)), (1, .int x1)] := hl
  refine lv_iconst (v := 0) hx hb dX5_kindsOf_0 (by decide) ?_
  refine lv_istore_n (lv' := [(2, .int 0), (0, .ref (a 7)), (1, .int x1)]) hx hb dX5_kindsOf_1 rfl hl (by decide) rfl (fun ls hl => ?_)
  refine lv_iconst (v := 0) hx hb dX5_kindsOf_2 (by decide) ?_
  refine lv_istore_n (lv' := [(3, .int 0), (2, .int 0), (0, .ref (a 7)), (1, .int x1)]) hx hb dX5_kindsOf_3 rfl hl (by decide) rfl (fun ls hl => ?_)
  exact w_X5_kindsOf_l4 C N M hP x1 r N 0 0 ls (lv_sub hl [2, 3, 1, 0] rfl) hf
