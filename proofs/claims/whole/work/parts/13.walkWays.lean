set_option maxHeartbeats 4000000 in
set_option maxRecDepth 100000 in
theorem c_X10_apartTo (l : Launch) (D : va_G) (g : Nat → ClassId) (a : Nat → Nat) (M : Mem) (x1 : Int32) (x2 : Int32) (r : Int32) (hf : f_X10_apartTo M x1 x2 = some r) : Met l yX10_apartTo (cW yX10_apartTo cX10_apartTo 3 (some .int)) (rmv 1 21) (Pw D (tyL g) (wC g a M) [.ref (a 3), .int x1, .int x2]) (RdQ (.int r)) 0 0 nof := by
  unfold f_X10_apartTo at hf
  refine met_in (by decide) (Nat.le_of_ble_eq_true rfl) ?_
  intro p e s m args below meth c ls C hP hl
  have C : Cx p s m args meth c cX10_apartTo 3 (some .int) RX10 D (tyL g) := C
  obtain ⟨hx, hb, hr, hml, hown, ht, hlocks, hK, hN⟩ := id C
  have hl : lv_has ls 3 [(0, .ref (a 3)), (1, .int x1), (2, .int x2)] := hl
  refine lv_iload_n hx hb dX10_apartTo_0 rfl (lv_at hl 2 rfl) ?_
  refine lv_bipush (v := (-9)) hx hb dX10_apartTo_1 (by decide) ?_
  refine lv_icmp_ne (tgt := 10) hx hb dX10_apartTo_3 (by decide) (fun c_1 => ?_) (fun c_1 => ?_)
  · have hf := ifn c_1 hf
    refine lv_aload_n hx hb dX10_apartTo_10 rfl (lv_at hl 0 rfl) ?_
    refine fg_X10_9 C hP dX10_apartTo_11 ?_
    refine lv_iload_n hx hb dX10_apartTo_14 rfl (lv_at hl 1 rfl) ?_
    obtain ⟨h_2, hf⟩ := ifs hf
    refine va_iald hx hb hK hP 28 0 (aC_28 g a M) rfl h_2 dX10_apartTo_15 ?_
    refine lv_aload_n hx hb dX10_apartTo_16 rfl (lv_at hl 0 rfl) ?_
    refine fg_X10_9 C hP dX10_apartTo_17 ?_
    refine lv_iload_n hx hb dX10_apartTo_20 rfl (lv_at hl 2 rfl) ?_
    obtain ⟨h_3, hf⟩ := ifs hf
    refine va_iald hx hb hK hP 28 0 (aC_28 g a M) rfl h_3 dX10_apartTo_21 ?_
    refine lv_isub hx hb dX10_apartTo_22 ?_
    refine va_mabs hx hb (hml.trans hl.1.symm) hown (ht _ wd_400) (ht _ wd_401) (ht _ wd_14) (ht _ wd_402) (Nat.le_of_ble_eq_true rfl) (Nat.le_of_ble_eq_true rfl) (Nat.le_refl _) (Nat.le_refl _) dX10_apartTo_23 ?_
    obtain rfl := Option.some.inj hf
    exact retR C dX10_apartTo_26
  · have hf := ifp c_1 hf
    refine lv_iconst (v := 0) hx hb dX10_apartTo_6 (by decide) ?_
    refine lv_goto (tgt := 26) hx hb dX10_apartTo_7 (by decide) ?_
    obtain rfl := Option.some.inj hf
    exact retR C dX10_apartTo_26
set_option maxHeartbeats 4000000 in
set_option maxRecDepth 100000 in
theorem w_X10_measure_l55 {p : Program} {l : Launch} {e : Env} {s : State} {m : MethodId} {args : Array Value} {below : List Frame} {meth : Method} {c : Code} {D : va_G} {g : Nat → ClassId} {a : Nat → Nat} (C : Cx p s m args meth c cX10_measure 5 none RX10 D (tyL g)) (hJ : Inj a 41) (N : Nat) (x2 : Int32) (x3 : Int32) (M' : Mem) (kc : Mem → Option (Mem)) (hkc : ∀ (M : Mem), ∀ (H : Heap) (locs : List Loc), va_P D clL (wC g a M) H → va_S (inA a 41) s.heap H locs → ∀ (ls : Array Slot), lv_has ls 5 [(0, .ref (a 3)), (2, .int x2), (3, .int x3)] → kc M = some M' → W p l e (rmv 5 112) s m args below meth c H locs 0 0 (MQ below (WvQ D (wC g a M') (inA a 41)) args s 0 0 (inA a 41)) (F0 m 139 ls [])) :
    ∀ (n : Nat) (M : Mem) (x4 : Int32), ∀ (H : Heap) (locs : List Loc), va_P D clL (wC g a M) H → va_S (inA a 41) s.heap H locs → ∀ (ls : Array Slot), lv_has ls 5 [(0, .ref (a 3)), (2, .int x2), (3, .int x3), (4, .int x4)] → f_X10_measure_l55 kc N n M x4 = some M' → W p l e (rmv 5 112) s m args below meth c H locs 0 0 (MQ below (WvQ D (wC g a M') (inA a 41)) args s 0 0 (inA a 41)) (F0 m 55 ls []) := by
  obtain ⟨hx, hb, hr, hml, hown, ht, hlocks, hK, hN⟩ := id C
  intro n
  induction n with
  | zero =>
    intro M x4 H locs hP hS ls hl hf
    exact nos hf
  | succ n ih =>
    intro M x4 H locs hP hS ls hl hf
    rw [f_X10_measure_l55] at hf
    refine lv_iload hx hb dX10_measure_55 (lv_at hl 3 rfl) ?_
    refine lv_aload_n hx hb dX10_measure_57 rfl (lv_at hl 0 rfl) ?_
    refine fg_X10_27 C hP dX10_measure_58 ?_
    obtain ⟨r5, e_5, hf⟩ := bns hf
    refine kR (rV (rest := [.int x4]) C (c_X3_stones l D g a M r5 e_5) ok_X3_stones wd_386 hP 2 (aC_2 g a M) rfl ⟨rfl, rfl, Nat.le_of_ble_eq_true rfl, Nat.le_of_ble_eq_true rfl⟩ rfl hl.1 rfl (Nat.le_of_ble_eq_true rfl) dX10_measure_61 ⟨Nat.le_of_ble_eq_true rfl, Nat.le_of_ble_eq_true rfl⟩) ?_
    refine lv_icmp_ge (tgt := 139) hx hb dX10_measure_64 (by decide) (fun c_6 => ?_) (fun c_6 => ?_)
    · have hf := ifp c_6 hf
      exact hkc M H locs hP hS ls (lv_sub hl [0, 1, 2] rfl) hf
    · have hf := ifn c_6 hf
      refine lv_aload_n hx hb dX10_measure_67 rfl (lv_at hl 0 rfl) ?_
      refine fg_X10_15 C hP dX10_measure_68 ?_
      refine lv_iload hx hb dX10_measure_71 (lv_at hl 3 rfl) ?_
      refine lv_aload_n hx hb dX10_measure_73 rfl (lv_at hl 0 rfl) ?_
      refine fg_X10_15 C hP dX10_measure_74 ?_
      refine lv_iload hx hb dX10_measure_77 (lv_at hl 3 rfl) ?_
      obtain ⟨h_7, hf⟩ := ifs hf
      refine va_iald hx hb hK hP 29 0 (aC_29 g a M) rfl h_7 dX10_measure_79 ?_
      refine lv_aload_n hx hb dX10_measure_80 rfl (lv_at hl 0 rfl) ?_
      refine lv_iload hx hb dX10_measure_81 (lv_at hl 3 rfl) ?_
      refine lv_aload_n hx hb dX10_measure_83 rfl (lv_at hl 0 rfl) ?_
      refine fg_X10_27 C hP dX10_measure_84 ?_
      refine lv_iload hx hb dX10_measure_87 (lv_at hl 3 rfl) ?_
      refine lv_iconst (v := 2) hx hb dX10_measure_89 (by decide) ?_
      obtain ⟨r8, e_8, hf⟩ := bns hf
      refine kR (rV (rest := [.int x4, .ref (a 3), .int (M 29 x4.toNatClampNeg), .int x4, .ref (a 29)]) C (c_X3_neighbour l D g a M x4 2 r8 e_8) ok_X3_neighbour wd_392 hP 2 (aC_2 g a M) rfl ⟨rfl, rfl, Nat.le_of_ble_eq_true rfl, Nat.le_of_ble_eq_true rfl⟩ rfl hl.1 rfl (Nat.le_of_ble_eq_true rfl) dX10_measure_90 ⟨Nat.le_of_ble_eq_true rfl, Nat.le_of_ble_eq_true rfl⟩) ?_
      obtain ⟨r9, e_9, hf⟩ := bns hf
      refine kR (rV (rest := [.int (M 29 x4.toNatClampNeg), .int x4, .ref (a 29)]) C (c_X10_apartTo l D g a M x4 r8 r9 e_9) ok_X10_apartTo wd_396 hP 3 (aC_3 g a M) rfl ⟨rfl, rfl, Nat.le_of_ble_eq_true rfl, Nat.le_of_ble_eq_true rfl⟩ rfl hl.1 rfl (Nat.le_of_ble_eq_true rfl) dX10_measure_93 ⟨Nat.le_of_ble_eq_true rfl, Nat.le_of_ble_eq_true rfl⟩) ?_
      refine va_mmax hx hb (hml.trans hl.1.symm) hown (ht _ wd_403) (ht _ wd_404) (ht _ wd_14) (ht _ wd_405) (Nat.le_of_ble_eq_true rfl) (Nat.le_of_ble_eq_true rfl) (Nat.le_refl _) (Nat.le_refl _) dX10_measure_96 ?_
      refine ast (wC g a) C hP (wC_D hJ) hS 29 0 (aC_29 g a M) rfl (sC_29 g a M) h_7 dX10_measure_99 (fun H locs hP hS => ?_)
      obtain ⟨M10, eM10, hf⟩ := nms hf
      have hP : va_P D clL (wC g a M10) H := by rw [eM10]; exact hP
      refine lv_aload_n hx hb dX10_measure_100 rfl (lv_at hl 0 rfl) ?_
      refine fg_X10_18 C hP dX10_measure_101 ?_
      refine lv_iload hx hb dX10_measure_104 (lv_at hl 3 rfl) ?_
      refine lv_aload_n hx hb dX10_measure_106 rfl (lv_at hl 0 rfl) ?_
      refine fg_X10_18 C hP dX10_measure_107 ?_
      refine lv_iload hx hb dX10_measure_110 (lv_at hl 3 rfl) ?_
      refine va_iald hx hb hK hP 30 0 (aC_30 g a M10) rfl h_7 dX10_measure_112 ?_
      refine lv_aload_n hx hb dX10_measure_113 rfl (lv_at hl 0 rfl) ?_
      refine lv_iload hx hb dX10_measure_114 (lv_at hl 3 rfl) ?_
      refine lv_aload_n hx hb dX10_measure_116 rfl (lv_at hl 0 rfl) ?_
      refine fg_X10_27 C hP dX10_measure_117 ?_
      refine lv_iload hx hb dX10_measure_120 (lv_at hl 3 rfl) ?_
      refine lv_iconst (v := 3) hx hb dX10_measure_122 (by decide) ?_
      obtain ⟨r11, e_11, hf⟩ := bns hf
      refine kR (rV (rest := [.int x4, .ref (a 3), .int (M10 30 x4.toNatClampNeg), .int x4, .ref (a 30)]) C (c_X3_neighbour l D g a M10 x4 3 r11 e_11) ok_X3_neighbour wd_392 hP 2 (aC_2 g a M10) rfl ⟨rfl, rfl, Nat.le_of_ble_eq_true rfl, Nat.le_of_ble_eq_true rfl⟩ rfl hl.1 rfl (Nat.le_of_ble_eq_true rfl) dX10_measure_123 ⟨Nat.le_of_ble_eq_true rfl, Nat.le_of_ble_eq_true rfl⟩) ?_
      obtain ⟨r12, e_12, hf⟩ := bns hf
      refine kR (rV (rest := [.int (M10 30 x4.toNatClampNeg), .int x4, .ref (a 30)]) C (c_X10_apartTo l D g a M10 x4 r11 r12 e_12) ok_X10_apartTo wd_396 hP 3 (aC_3 g a M10) rfl ⟨rfl, rfl, Nat.le_of_ble_eq_true rfl, Nat.le_of_ble_eq_true rfl⟩ rfl hl.1 rfl (Nat.le_of_ble_eq_true rfl) dX10_measure_126 ⟨Nat.le_of_ble_eq_true rfl, Nat.le_of_ble_eq_true rfl⟩) ?_
      refine va_mmax hx hb (hml.trans hl.1.symm) hown (ht _ wd_403) (ht _ wd_404) (ht _ wd_14) (ht _ wd_405) (Nat.le_of_ble_eq_true rfl) (Nat.le_of_ble_eq_true rfl) (Nat.le_refl _) (Nat.le_refl _) dX10_measure_129 ?_
      refine ast (wC g a) C hP (wC_D hJ) hS 30 0 (aC_30 g a M10) rfl (sC_30 g a M10) h_7 dX10_measure_132 (fun H locs hP hS => ?_)
      obtain ⟨M13, eM13, hf⟩ := nms hf
      have hP : va_P D clL (wC g a M13) H := by rw [eM13]; exact hP
      refine lv_iinc (v := (x4 + 1)) (lv' := [(4, .int (x4 + 1)), (0, .ref (a 3)), (2, .int x2), (3, .int x3)]) hx hb dX10_measure_133 hl (k := 3) rfl rfl (by decide) rfl (fun ls hl => ?_)
      refine lv_goto (tgt := 55) hx hb dX10_measure_136 (by decide) ?_
      exact ih M13 (x4 + 1) H locs hP hS ls (lv_sub hl [1, 2, 3, 0] rfl) hf
set_option maxHeartbeats 4000000 in
set_option maxRecDepth 100000 in
theorem w_X10_measure_l35 {p : Program} {l : Launch} {e : Env} {s : State} {m : MethodId} {args : Array Value} {below : List Frame} {meth : Method} {c : Code} {D : va_G} {g : Nat → ClassId} {a : Nat → Nat} (C : Cx p s m args meth c cX10_measure 5 none RX10 D (tyL g)) (hJ : Inj a 41) (N : Nat) (x2 : Int32) (M' : Mem) :
    ∀ (n : Nat) (M : Mem) (x3 : Int32), ∀ (H : Heap) (locs : List Loc), va_P D clL (wC g a M) H → va_S (inA a 41) s.heap H locs → ∀ (ls : Array Slot), lv_has ls 5 [(0, .ref (a 3)), (2, .int x2), (3, .int x3)] → f_X10_measure_l35 N x2 n M x3 = some M' → W p l e (rmv 5 112) s m args below meth c H locs 0 0 (MQ below (WvQ D (wC g a M') (inA a 41)) args s 0 0 (inA a 41)) (F0 m 35 ls []) := by
  obtain ⟨hx, hb, hr, hml, hown, ht, hlocks, hK, hN⟩ := id C
  intro n
  induction n with
  | zero =>
    intro M x3 H locs hP hS ls hl hf
    exact nos hf
  | succ n ih =>
    intro M x3 H locs hP hS ls hl hf
    rw [f_X10_measure_l35] at hf
    refine lv_iload_n hx hb dX10_measure_35 rfl (lv_at hl 2 rfl) ?_
    refine lv_iload_n hx hb dX10_measure_36 rfl (lv_at hl 1 rfl) ?_
    refine lv_icmp_gt (tgt := 145) hx hb dX10_measure_37 (by decide) (fun c_3 => ?_) (fun c_3 => ?_)
    · have hf := ifp c_3 hf
      obtain rfl := Option.some.inj hf
      exact retWv C hP hS dX10_measure_145
    · have hf := ifn c_3 hf
      refine lv_aload_n hx hb dX10_measure_40 rfl (lv_at hl 0 rfl) ?_
      refine fg_X10_27 C hP dX10_measure_41 ?_
      refine lv_iload_n hx hb dX10_measure_44 rfl (lv_at hl 2 rfl) ?_
      refine lv_aload_n hx hb dX10_measure_45 rfl (lv_at hl 0 rfl) ?_
      refine fg_X10_9 C hP dX10_measure_46 ?_
      obtain ⟨M4, e_4, hf⟩ := bns hf
      refine kWv (rV (rest := []) C (c_X3_writeHeights l D g a hJ N 28 (isH_28) M x3 M4 e_4) ok_X3_writeHeights wd_387 hP 2 (aC_2 g a M) rfl ⟨rfl, rfl, Nat.le_of_ble_eq_true rfl, Nat.le_of_ble_eq_true rfl⟩ rfl hl.1 rfl (Nat.le_of_ble_eq_true rfl) dX10_measure_49 ⟨Nat.le_of_ble_eq_true rfl, Nat.le_of_ble_eq_true rfl⟩) hS (fun H locs hP hS => ?_)
      refine lv_iconst (v := 0) hx hb dX10_measure_52 (by decide) ?_
      refine lv_istore (lv' := [(4, .int 0), (0, .ref (a 3)), (2, .int x2), (3, .int x3)]) hx hb dX10_measure_53 hl (by decide) rfl (fun ls hl => ?_)
      refine w_X10_measure_l55 C hJ N x2 x3 M' _ (fun M14 H locs hP hS ls hl hf => ?_) N M4 0 H locs hP hS ls (lv_sub hl [1, 2, 3, 0] rfl) hf
      refine lv_iinc (v := (x3 + 1)) (lv' := [(3, .int (x3 + 1)), (0, .ref (a 3)), (2, .int x2)]) hx hb dX10_measure_139 hl (k := 2) rfl rfl (by decide) rfl (fun ls hl => ?_)
      refine lv_goto (tgt := 35) hx hb dX10_measure_142 (by decide) ?_
      exact ih M14 (x3 + 1) H locs hP hS ls (lv_sub hl [1, 2, 0] rfl) hf
set_option maxHeartbeats 4000000 in
set_option maxRecDepth 100000 in
theorem w_X10_measure_l2 {p : Program} {l : Launch} {e : Env} {s : State} {m : MethodId} {args : Array Value} {below : List Frame} {meth : Method} {c : Code} {D : va_G} {g : Nat → ClassId} {a : Nat → Nat} (C : Cx p s m args meth c cX10_measure 5 none RX10 D (tyL g)) (hJ : Inj a 41) (N : Nat) (x1 : Int32) (x2 : Int32) (M' : Mem) :
    ∀ (n : Nat) (M : Mem) (x3 : Int32), ∀ (H : Heap) (locs : List Loc), va_P D clL (wC g a M) H → va_S (inA a 41) s.heap H locs → ∀ (ls : Array Slot), lv_has ls 5 [(0, .ref (a 3)), (1, .int x1), (2, .int x2), (3, .int x3)] → f_X10_measure_l2 N x1 x2 n M x3 = some M' → W p l e (rmv 5 112) s m args below meth c H locs 0 0 (MQ below (WvQ D (wC g a M') (inA a 41)) args s 0 0 (inA a 41)) (F0 m 2 ls []) := by
  obtain ⟨hx, hb, hr, hml, hown, ht, hlocks, hK, hN⟩ := id C
  intro n
  induction n with
  | zero =>
    intro M x3 H locs hP hS ls hl hf
    exact nos hf
  | succ n ih =>
    intro M x3 H locs hP hS ls hl hf
    rw [f_X10_measure_l2] at hf
    refine lv_iload_n hx hb dX10_measure_2 rfl (lv_at hl 3 rfl) ?_
    refine lv_aload_n hx hb dX10_measure_3 rfl (lv_at hl 0 rfl) ?_
    refine fg_X10_27 C hP dX10_measure_4 ?_
    obtain ⟨r1, e_1, hf⟩ := bns hf
    refine kR (rV (rest := [.int x3]) C (c_X3_stones l D g a M r1 e_1) ok_X3_stones wd_386 hP 2 (aC_2 g a M) rfl ⟨rfl, rfl, Nat.le_of_ble_eq_true rfl, Nat.le_of_ble_eq_true rfl⟩ rfl hl.1 rfl (Nat.le_of_ble_eq_true rfl) dX10_measure_7 ⟨Nat.le_of_ble_eq_true rfl, Nat.le_of_ble_eq_true rfl⟩) ?_
    refine lv_icmp_ge (tgt := 33) hx hb dX10_measure_10 (by decide) (fun c_2 => ?_) (fun c_2 => ?_)
    · have hf := ifp c_2 hf
      refine lv_iload_n hx hb dX10_measure_33 rfl (lv_at hl 1 rfl) ?_
      refine lv_istore_n (lv' := [(3, .int x1), (0, .ref (a 3)), (1, .int x1), (2, .int x2)]) hx hb dX10_measure_34 rfl hl (by decide) rfl (fun ls hl => ?_)
      exact w_X10_measure_l35 C hJ N x2 M' N M x1 H locs hP hS ls (lv_sub hl [1, 3, 0] rfl) hf
    · have hf := ifn c_2 hf
      refine lv_aload_n hx hb dX10_measure_13 rfl (lv_at hl 0 rfl) ?_
      refine fg_X10_15 C hP dX10_measure_14 ?_
      refine lv_iload_n hx hb dX10_measure_17 rfl (lv_at hl 3 rfl) ?_
      refine lv_iconst (v := 0) hx hb dX10_measure_18 (by decide) ?_
      obtain ⟨h_15, hf⟩ := ifs hf
      refine ast (wC g a) C hP (wC_D hJ) hS 29 0 (aC_29 g a M) rfl (sC_29 g a M) h_15 dX10_measure_19 (fun H locs hP hS => ?_)
      obtain ⟨M16, eM16, hf⟩ := nms hf
      have hP : va_P D clL (wC g a M16) H := by rw [eM16]; exact hP
      refine lv_aload_n hx hb dX10_measure_20 rfl (lv_at hl 0 rfl) ?_
      refine fg_X10_18 C hP dX10_measure_21 ?_
      refine lv_iload_n hx hb dX10_measure_24 rfl (lv_at hl 3 rfl) ?_
      refine lv_iconst (v := 0) hx hb dX10_measure_25 (by decide) ?_
      refine ast (wC g a) C hP (wC_D hJ) hS 30 0 (aC_30 g a M16) rfl (sC_30 g a M16) h_15 dX10_measure_26 (fun H locs hP hS => ?_)
      obtain ⟨M17, eM17, hf⟩ := nms hf
      have hP : va_P D clL (wC g a M17) H := by rw [eM17]; exact hP
      refine lv_iinc (v := (x3 + 1)) (lv' := [(3, .int (x3 + 1)), (0, .ref (a 3)), (1, .int x1), (2, .int x2)]) hx hb dX10_measure_27 hl (k := 3) rfl rfl (by decide) rfl (fun ls hl => ?_)
      refine lv_goto (tgt := 2) hx hb dX10_measure_30 (by decide) ?_
      exact ih M17 (x3 + 1) H locs hP hS ls (lv_sub hl [1, 2, 3, 0] rfl) hf
set_option maxHeartbeats 4000000 in
set_option maxRecDepth 100000 in
theorem c_X10_measure (l : Launch) (D : va_G) (g : Nat → ClassId) (a : Nat → Nat) (hJ : Inj a 41) (N : Nat) (M : Mem) (x1 : Int32) (x2 : Int32) (M' : Mem) (hf : f_X10_measure N M x1 x2 = some M') : Met l yX10_measure (cW yX10_measure cX10_measure 5 none) (rmv 5 112) (Pw D (tyL g) (wC g a M) [.ref (a 3), .int x1, .int x2]) (WvQ D (wC g a M') (inA a 41)) 0 0 (inA a 41) := by
  unfold f_X10_measure at hf
  refine met_inW (A := (inA a 41)) (by decide) (Nat.le_of_ble_eq_true rfl) ?_
  intro p e s m args below meth c ls H locs C hP hS hl
  have C : Cx p s m args meth c cX10_measure 5 none RX10 D (tyL g) := C
  obtain ⟨hx, hb, hr, hml, hown, ht, hlocks, hK, hN⟩ := id C
  have hl : lv_has ls 5 [(0, .ref (a 3)), (1, .int x1), (2, .int x2)] := hl
  refine lv_iconst (v := 0) hx hb dX10_measure_0 (by decide) ?_
  refine lv_istore_n (lv' := [(3, .int 0), (0, .ref (a 3)), (1, .int x1), (2, .int x2)]) hx hb dX10_measure_1 rfl hl (by decide) rfl (fun ls hl => ?_)
  exact w_X10_measure_l2 C hJ N x1 x2 M' N M 0 H locs hP hS ls (lv_sub hl [1, 2, 3, 0] rfl) hf
set_option maxHeartbeats 4000000 in
set_option maxRecDepth 100000 in
theorem c_X10_stepAt (l : Launch) (D : va_G) (g : Nat → ClassId) (a : Nat → Nat) (M : Mem) (x1 : Int32) (x2 : Int32) (x3 : Int32) (r : Int32) (hf : f_X10_stepAt M x1 x2 x3 = some r) : Met l yX10_stepAt (cW yX10_stepAt cX10_stepAt 4 (some .int)) (rmv 0 0) (Pw D (tyL g) (wC g a M) [.ref (a 3), .int x1, .int x2, .int x3]) (RdQ (.int r)) 0 0 nof := by
  unfold f_X10_stepAt at hf
  refine met_in (by decide) (Nat.le_of_ble_eq_true rfl) ?_
  intro p e s m args below meth c ls C hP hl
  have C : Cx p s m args meth c cX10_stepAt 4 (some .int) RX10 D (tyL g) := C
  obtain ⟨hx, hb, hr, hml, hown, ht, hlocks, hK, hN⟩ := id C
  have hl : lv_has ls 4 [(0, .ref (a 3)), (1, .int x1), (2, .int x2), (3, .int x3)] := hl
  refine lv_iload_n hx hb dX10_stepAt_0 rfl (lv_at hl 2 rfl) ?_
  refine lv_if_ne (tgt := 11) hx hb dX10_stepAt_1 (by decide) (fun c_1 => ?_) (fun c_1 => ?_)
  · have hf := ifn c_1 hf
    refine lv_iload_n hx hb dX10_stepAt_11 rfl (lv_at hl 2 rfl) ?_
    refine lv_iconst (v := 1) hx hb dX10_stepAt_12 (by decide) ?_
    refine lv_icmp_ne (tgt := 23) hx hb dX10_stepAt_13 (by decide) (fun c_2 => ?_) (fun c_2 => ?_)
    · have hf := ifn c_2 hf
      refine lv_iload_n hx hb dX10_stepAt_23 rfl (lv_at hl 2 rfl) ?_
      refine lv_iconst (v := 2) hx hb dX10_stepAt_24 (by decide) ?_
      refine lv_icmp_ne (tgt := 37) hx hb dX10_stepAt_25 (by decide) (fun c_3 => ?_) (fun c_3 => ?_)
      · have hf := ifn c_3 hf
        refine lv_aload_n hx hb dX10_stepAt_37 rfl (lv_at hl 0 rfl) ?_
        refine fg_X10_18 C hP dX10_stepAt_38 ?_
        refine lv_iload_n hx hb dX10_stepAt_41 rfl (lv_at hl 1 rfl) ?_
        obtain ⟨h_4, hf⟩ := ifs hf
        refine va_iald hx hb hK hP 30 0 (aC_30 g a M) rfl h_4 dX10_stepAt_42 ?_
        obtain rfl := Option.some.inj hf
        exact retR C dX10_stepAt_43
      · have hf := ifp c_3 hf
        refine lv_aload_n hx hb dX10_stepAt_28 rfl (lv_at hl 0 rfl) ?_
        refine fg_X10_15 C hP dX10_stepAt_29 ?_
        refine lv_iload_n hx hb dX10_stepAt_32 rfl (lv_at hl 1 rfl) ?_
        obtain ⟨h_5, hf⟩ := ifs hf
        refine va_iald hx hb hK hP 29 0 (aC_29 g a M) rfl h_5 dX10_stepAt_33 ?_
        refine lv_goto (tgt := 43) hx hb dX10_stepAt_34 (by decide) ?_
        obtain rfl := Option.some.inj hf
        exact retR C dX10_stepAt_43
    · have hf := ifp c_2 hf
      refine lv_aload_n hx hb dX10_stepAt_16 rfl (lv_at hl 0 rfl) ?_
      refine fg_X10_15 C hP dX10_stepAt_17 ?_
      refine lv_iload_n hx hb dX10_stepAt_20 rfl (lv_at hl 3 rfl) ?_
      obtain ⟨h_6, hf⟩ := ifs hf
      refine va_iald hx hb hK hP 29 0 (aC_29 g a M) rfl h_6 dX10_stepAt_21 ?_
      obtain rfl := Option.some.inj hf
      exact retR C dX10_stepAt_22
  · have hf := ifp c_1 hf
    refine lv_aload_n hx hb dX10_stepAt_4 rfl (lv_at hl 0 rfl) ?_
    refine fg_X10_18 C hP dX10_stepAt_5 ?_
    refine lv_iload_n hx hb dX10_stepAt_8 rfl (lv_at hl 3 rfl) ?_
    obtain ⟨h_7, hf⟩ := ifs hf
    refine va_iald hx hb hK hP 30 0 (aC_30 g a M) rfl h_7 dX10_stepAt_9 ?_
    obtain rfl := Option.some.inj hf
    exact retR C dX10_stepAt_10
set_option maxHeartbeats 4000000 in
set_option maxRecDepth 100000 in
theorem w_X10_countStepsTo_l71 {p : Program} {l : Launch} {e : Env} {s : State} {m : MethodId} {args : Array Value} {below : List Frame} {meth : Method} {c : Code} {D : va_G} {g : Nat → ClassId} {a : Nat → Nat} (C : Cx p s m args meth c cX10_countStepsTo 8 none RX10 D (tyL g)) (hJ : Inj a 41) (N : Nat) (x2 : Int32) (x5 : Int32) (x4 : Int32) (M' : Mem) (kc : Mem → Int32 → Option (Mem)) (hkc : ∀ (M : Mem), ∀ (y3 : Int32), ∀ (H : Heap) (locs : List Loc), va_P D clL (wC g a M) H → va_S (inA a 41) s.heap H locs → ∀ (ls : Array Slot), lv_has ls 8 [(0, .ref (a 3)), (2, .int x2), (3, .int y3), (4, .int x4)] → kc M y3 = some M' → W p l e (rmv 1 23) s m args below meth c H locs 0 0 (MQ below (WvQ D (wC g a M') (inA a 41)) args s 0 0 (inA a 41)) (F0 m 156 ls [])) :
    ∀ (n : Nat) (M : Mem) (x3 : Int32) (x6 : Int32), ∀ (H : Heap) (locs : List Loc), va_P D clL (wC g a M) H → va_S (inA a 41) s.heap H locs → ∀ (ls : Array Slot), lv_has ls 8 [(0, .ref (a 3)), (2, .int x2), (3, .int x3), (4, .int x4), (5, .int x5), (6, .int x6)] → f_X10_countStepsTo_l71 kc N x2 x5 n M x3 x6 = some M' → W p l e (rmv 1 23) s m args below meth c H locs 0 0 (MQ below (WvQ D (wC g a M') (inA a 41)) args s 0 0 (inA a 41)) (F0 m 71 ls []) := by
  obtain ⟨hx, hb, hr, hml, hown, ht, hlocks, hK, hN⟩ := id C
  intro n
  induction n with
  | zero =>
    intro M x3 x6 H locs hP hS ls hl hf
    exact nos hf
  | succ n ih =>
    intro M x3 x6 H locs hP hS ls hl hf
    rw [f_X10_countStepsTo_l71] at hf
    refine lv_iload hx hb dX10_countStepsTo_71 (lv_at hl 5 rfl) ?_
    refine lv_iconst (v := 4) hx hb dX10_countStepsTo_73 (by decide) ?_
    refine lv_icmp_ge (tgt := 156) hx hb dX10_countStepsTo_74 (by decide) (fun c_11 => ?_) (fun c_11 => ?_)
    · have hf := ifp c_11 hf
      exact hkc M x3 H locs hP hS ls (lv_sub hl [0, 1, 2, 3] rfl) hf
    · have hf := ifn c_11 hf
      refine lv_aload_n hx hb dX10_countStepsTo_77 rfl (lv_at hl 0 rfl) ?_
      refine fg_X10_27 C hP dX10_countStepsTo_78 ?_
      refine lv_iload hx hb dX10_countStepsTo_81 (lv_at hl 4 rfl) ?_
      refine lv_iload hx hb dX10_countStepsTo_83 (lv_at hl 5 rfl) ?_
      obtain ⟨r12, e_12, hf⟩ := bns hf
      refine kR (rV (rest := []) C (c_X3_neighbour l D g a M x5 x6 r12 e_12) ok_X3_neighbour wd_392 hP 2 (aC_2 g a M) rfl ⟨rfl, rfl, Nat.le_of_ble_eq_true rfl, Nat.le_of_ble_eq_true rfl⟩ rfl hl.1 rfl (Nat.le_of_ble_eq_true rfl) dX10_countStepsTo_85 ⟨Nat.le_of_ble_eq_true rfl, Nat.le_of_ble_eq_true rfl⟩) ?_
      refine lv_istore (lv' := [(7, .int r12), (0, .ref (a 3)), (2, .int x2), (3, .int x3), (4, .int x4), (5, .int x5), (6, .int x6)]) hx hb dX10_countStepsTo_88 hl (by decide) rfl (fun ls hl => ?_)
      refine lv_iload hx hb dX10_countStepsTo_90 (lv_at hl 0 rfl) ?_
      refine lv_bipush (v := (-9)) hx hb dX10_countStepsTo_92 (by decide) ?_
      refine lv_icmp_eq (tgt := 150) hx hb dX10_countStepsTo_94 (by decide) (fun c_13 => ?_) (fun c_13 => ?_)
      · have hf := ifp c_13 hf
        refine lv_iinc (v := (x6 + 1)) (lv' := [(6, .int (x6 + 1)), (7, .int r12), (0, .ref (a 3)), (2, .int x2), (3, .int x3), (4, .int x4), (5, .int x5)]) hx hb dX10_countStepsTo_150 hl (k := 6) rfl rfl (by decide) rfl (fun ls hl => ?_)
        refine lv_goto (tgt := 71) hx hb dX10_countStepsTo_153 (by decide) ?_
        exact ih M x3 (x6 + 1) H locs hP hS ls (lv_sub hl [2, 3, 4, 5, 6, 0] rfl) hf
      · have hf := ifn c_13 hf
        refine lv_aload_n hx hb dX10_countStepsTo_97 rfl (lv_at hl 1 rfl) ?_
        refine fg_X10_21 C hP dX10_countStepsTo_98 ?_
        refine lv_iload hx hb dX10_countStepsTo_101 (lv_at hl 0 rfl) ?_
        obtain ⟨h_14, hf⟩ := ifs hf
        refine va_iald hx hb hK hP 31 0 (aC_31 g a M) rfl h_14 dX10_countStepsTo_103 ?_
        refine lv_bipush (v := (-9)) hx hb dX10_countStepsTo_104 (by decide) ?_
        refine lv_icmp_ne (tgt := 150) hx hb dX10_countStepsTo_106 (by decide) (fun c_15 => ?_) (fun c_15 => ?_)
        · have hf := ifn c_15 hf
          refine lv_iinc (v := (x6 + 1)) (lv' := [(6, .int (x6 + 1)), (7, .int r12), (0, .ref (a 3)), (2, .int x2), (3, .int x3), (4, .int x4), (5, .int x5)]) hx hb dX10_countStepsTo_150 hl (k := 6) rfl rfl (by decide) rfl (fun ls hl => ?_)
          refine lv_goto (tgt := 71) hx hb dX10_countStepsTo_153 (by decide) ?_
          exact ih M x3 (x6 + 1) H locs hP hS ls (lv_sub hl [2, 3, 4, 5, 6, 0] rfl) hf
        · have hf := ifp c_15 hf
          refine lv_aload_n hx hb dX10_countStepsTo_109 rfl (lv_at hl 1 rfl) ?_
          refine lv_iload hx hb dX10_countStepsTo_110 (lv_at hl 5 rfl) ?_
          refine lv_iload hx hb dX10_countStepsTo_112 (lv_at hl 6 rfl) ?_
          refine lv_iload hx hb dX10_countStepsTo_114 (lv_at hl 0 rfl) ?_
          obtain ⟨r16, e_16, hf⟩ := bns hf
          refine kR (rV (rest := []) C (c_X10_stepAt l D g a M x5 x6 r12 r16 e_16) ok_X10_stepAt wd_410 hP 3 (aC_3 g a M) rfl ⟨rfl, rfl, Nat.le_of_ble_eq_true rfl, Nat.le_of_ble_eq_true rfl⟩ rfl hl.1 rfl (Nat.le_of_ble_eq_true rfl) dX10_countStepsTo_116 ⟨Nat.le_of_ble_eq_true rfl, Nat.le_of_ble_eq_true rfl⟩) ?_
          refine lv_iload_n hx hb dX10_countStepsTo_119 rfl (lv_at hl 2 rfl) ?_
          refine lv_icmp_gt (tgt := 150) hx hb dX10_countStepsTo_120 (by decide) (fun c_17 => ?_) (fun c_17 => ?_)
          · have hf := ifp c_17 hf
            refine lv_iinc (v := (x6 + 1)) (lv' := [(6, .int (x6 + 1)), (7, .int r12), (0, .ref (a 3)), (2, .int x2), (3, .int x3), (4, .int x4), (5, .int x5)]) hx hb dX10_countStepsTo_150 hl (k := 6) rfl rfl (by decide) rfl (fun ls hl => ?_)
            refine lv_goto (tgt := 71) hx hb dX10_countStepsTo_153 (by decide) ?_
            exact ih M x3 (x6 + 1) H locs hP hS ls (lv_sub hl [2, 3, 4, 5, 6, 0] rfl) hf
          · have hf := ifn c_17 hf
            refine lv_aload_n hx hb dX10_countStepsTo_123 rfl (lv_at hl 1 rfl) ?_
            refine fg_X10_21 C hP dX10_countStepsTo_124 ?_
            refine lv_iload hx hb dX10_countStepsTo_127 (lv_at hl 0 rfl) ?_
            refine lv_aload_n hx hb dX10_countStepsTo_129 rfl (lv_at hl 1 rfl) ?_
            refine fg_X10_21 C hP dX10_countStepsTo_130 ?_
            refine lv_iload hx hb dX10_countStepsTo_133 (lv_at hl 5 rfl) ?_
            obtain ⟨h_18, hf⟩ := ifs hf
            refine va_iald hx hb hK hP 31 0 (aC_31 g a M) rfl h_18 dX10_countStepsTo_135 ?_
            refine lv_iconst (v := 1) hx hb dX10_countStepsTo_136 (by decide) ?_
            refine lv_iadd hx hb dX10_countStepsTo_137 ?_
            refine ast (wC g a) C hP (wC_D hJ) hS 31 0 (aC_31 g a M) rfl (sC_31 g a M) h_14 dX10_countStepsTo_138 (fun H locs hP hS => ?_)
            obtain ⟨M19, eM19, hf⟩ := nms hf
            have hP : va_P D clL (wC g a M19) H := by rw [eM19]; exact hP
            refine lv_aload_n hx hb dX10_countStepsTo_139 rfl (lv_at hl 1 rfl) ?_
            refine fg_X10_24 C hP dX10_countStepsTo_140 ?_
            refine lv_iload_n hx hb dX10_countStepsTo_143 rfl (lv_at hl 3 rfl) ?_
            refine lv_iload hx hb dX10_countStepsTo_144 (lv_at hl 0 rfl) ?_
            obtain ⟨h_20, hf⟩ := ifs hf
            refine ast (wC g a) C hP (wC_D hJ) hS 32 0 (aC_32 g a M19) rfl (sC_32 g a M19) h_20 dX10_countStepsTo_146 (fun H locs hP hS => ?_)
            obtain ⟨M21, eM21, hf⟩ := nms hf
            have hP : va_P D clL (wC g a M21) H := by rw [eM21]; exact hP
            refine lv_iinc (v := (x3 + 1)) (lv' := [(3, .int (x3 + 1)), (7, .int r12), (0, .ref (a 3)), (2, .int x2), (4, .int x4), (5, .int x5), (6, .int x6)]) hx hb dX10_countStepsTo_147 hl (k := 3) rfl rfl (by decide) rfl (fun ls hl => ?_)
            refine lv_iinc (v := (x6 + 1)) (lv' := [(6, .int (x6 + 1)), (3, .int (x3 + 1)), (7, .int r12), (0, .ref (a 3)), (2, .int x2), (4, .int x4), (5, .int x5)]) hx hb dX10_countStepsTo_150 hl (k := 6) rfl rfl (by decide) rfl (fun ls hl => ?_)
            refine lv_goto (tgt := 71) hx hb dX10_countStepsTo_153 (by decide) ?_
            exact ih M21 (x3 + 1) (x6 + 1) H locs hP hS ls (lv_sub hl [3, 4, 1, 5, 6, 0] rfl) hf
set_option maxHeartbeats 4000000 in
set_option maxRecDepth 100000 in
theorem w_X10_countStepsTo_l46 {p : Program} {l : Launch} {e : Env} {s : State} {m : MethodId} {args : Array Value} {below : List Frame} {meth : Method} {c : Code} {D : va_G} {g : Nat → ClassId} {a : Nat → Nat} (C : Cx p s m args meth c cX10_countStepsTo 8 none RX10 D (tyL g)) (hJ : Inj a 41) (N : Nat) (x2 : Int32) (M' : Mem) :
    ∀ (n : Nat) (M : Mem) (x3 : Int32) (x4 : Int32), ∀ (H : Heap) (locs : List Loc), va_P D clL (wC g a M) H → va_S (inA a 41) s.heap H locs → ∀ (ls : Array Slot), lv_has ls 8 [(0, .ref (a 3)), (2, .int x2), (3, .int x3), (4, .int x4)] → f_X10_countStepsTo_l46 N x2 n M x3 x4 = some M' → W p l e (rmv 1 23) s m args below meth c H locs 0 0 (MQ below (WvQ D (wC g a M') (inA a 41)) args s 0 0 (inA a 41)) (F0 m 46 ls []) := by
  obtain ⟨hx, hb, hr, hml, hown, ht, hlocks, hK, hN⟩ := id C
  intro n
  induction n with
  | zero =>
    intro M x3 x4 H locs hP hS ls hl hf
    exact nos hf
  | succ n ih =>
    intro M x3 x4 H locs hP hS ls hl hf
    rw [f_X10_countStepsTo_l46] at hf
    refine lv_iload hx hb dX10_countStepsTo_46 (lv_at hl 3 rfl) ?_
    refine lv_iload_n hx hb dX10_countStepsTo_48 rfl (lv_at hl 2 rfl) ?_
    refine lv_icmp_ge (tgt := 162) hx hb dX10_countStepsTo_49 (by decide) (fun c_7 => ?_) (fun c_7 => ?_)
    · have hf := ifp c_7 hf
      obtain rfl := Option.some.inj hf
      exact retWv C hP hS dX10_countStepsTo_162
    · have hf := ifn c_7 hf
      refine lv_iload hx hb dX10_countStepsTo_52 (lv_at hl 3 rfl) ?_
      refine lv_bipush (v := 30) hx hb dX10_countStepsTo_54 (by decide) ?_
      refine lv_icmp_ge (tgt := 162) hx hb dX10_countStepsTo_56 (by decide) (fun c_8 => ?_) (fun c_8 => ?_)
      · have hf := ifp c_8 hf
        obtain rfl := Option.some.inj hf
        exact retWv C hP hS dX10_countStepsTo_162
      · have hf := ifn c_8 hf
        refine lv_aload_n hx hb dX10_countStepsTo_59 rfl (lv_at hl 0 rfl) ?_
        refine fg_X10_24 C hP dX10_countStepsTo_60 ?_
        refine lv_iload hx hb dX10_countStepsTo_63 (lv_at hl 3 rfl) ?_
        obtain ⟨h_9, hf⟩ := ifs hf
        refine va_iald hx hb hK hP 32 0 (aC_32 g a M) rfl h_9 dX10_countStepsTo_65 ?_
        refine lv_topi (fun z10 ez10 => ?_)
        have hf := nmr ez10 hf
        refine lv_istore (lv' := [(5, .int z10), (0, .ref (a 3)), (2, .int x2), (3, .int x3), (4, .int x4)]) hx hb dX10_countStepsTo_66 hl (by decide) rfl (fun ls hl => ?_)
        refine lv_iconst (v := 0) hx hb dX10_countStepsTo_68 (by decide) ?_
        refine lv_istore (lv' := [(6, .int 0), (5, .int z10), (0, .ref (a 3)), (2, .int x2), (3, .int x3), (4, .int x4)]) hx hb dX10_countStepsTo_69 hl (by decide) rfl (fun ls hl => ?_)
        refine w_X10_countStepsTo_l71 C hJ N x2 z10 x4 M' _ (fun M22 y3_22 H locs hP hS ls hl hf => ?_) N M x3 0 H locs hP hS ls (lv_sub hl [2, 3, 4, 5, 1, 0] rfl) hf
        refine lv_iinc (v := (x4 + 1)) (lv' := [(4, .int (x4 + 1)), (0, .ref (a 3)), (2, .int x2), (3, .int y3_22)]) hx hb dX10_countStepsTo_156 hl (k := 3) rfl rfl (by decide) rfl (fun ls hl => ?_)
        refine lv_goto (tgt := 46) hx hb dX10_countStepsTo_159 (by decide) ?_
        exact ih M22 y3_22 (x4 + 1) H locs hP hS ls (lv_sub hl [1, 2, 3, 0] rfl) hf
set_option maxHeartbeats 4000000 in
set_option maxRecDepth 100000 in
theorem w_X10_countStepsTo_l2 {p : Program} {l : Launch} {e : Env} {s : State} {m : MethodId} {args : Array Value} {below : List Frame} {meth : Method} {c : Code} {D : va_G} {g : Nat → ClassId} {a : Nat → Nat} (C : Cx p s m args meth c cX10_countStepsTo 8 none RX10 D (tyL g)) (hJ : Inj a 41) (N : Nat) (x1 : Int32) (x2 : Int32) (M' : Mem) :
    ∀ (n : Nat) (M : Mem) (x3 : Int32), ∀ (H : Heap) (locs : List Loc), va_P D clL (wC g a M) H → va_S (inA a 41) s.heap H locs → ∀ (ls : Array Slot), lv_has ls 8 [(0, .ref (a 3)), (1, .int x1), (2, .int x2), (3, .int x3)] → f_X10_countStepsTo_l2 N x1 x2 n M x3 = some M' → W p l e (rmv 1 23) s m args below meth c H locs 0 0 (MQ below (WvQ D (wC g a M') (inA a 41)) args s 0 0 (inA a 41)) (F0 m 2 ls []) := by
  obtain ⟨hx, hb, hr, hml, hown, ht, hlocks, hK, hN⟩ := id C
  intro n
  induction n with
  | zero =>
    intro M x3 H locs hP hS ls hl hf
    exact nos hf
  | succ n ih =>
    intro M x3 H locs hP hS ls hl hf
    rw [f_X10_countStepsTo_l2] at hf
    refine lv_iload_n hx hb dX10_countStepsTo_2 rfl (lv_at hl 3 rfl) ?_
    refine lv_aload_n hx hb dX10_countStepsTo_3 rfl (lv_at hl 0 rfl) ?_
    refine fg_X10_27 C hP dX10_countStepsTo_4 ?_
    obtain ⟨r1, e_1, hf⟩ := bns hf
    refine kR (rV (rest := [.int x3]) C (c_X3_stones l D g a M r1 e_1) ok_X3_stones wd_386 hP 2 (aC_2 g a M) rfl ⟨rfl, rfl, Nat.le_of_ble_eq_true rfl, Nat.le_of_ble_eq_true rfl⟩ rfl hl.1 rfl (Nat.le_of_ble_eq_true rfl) dX10_countStepsTo_7 ⟨Nat.le_of_ble_eq_true rfl, Nat.le_of_ble_eq_true rfl⟩) ?_
    refine lv_icmp_ge (tgt := 27) hx hb dX10_countStepsTo_10 (by decide) (fun c_2 => ?_) (fun c_2 => ?_)
    · have hf := ifp c_2 hf
      refine lv_aload_n hx hb dX10_countStepsTo_27 rfl (lv_at hl 0 rfl) ?_
      refine fg_X10_21 C hP dX10_countStepsTo_28 ?_
      refine lv_iload_n hx hb dX10_countStepsTo_31 rfl (lv_at hl 1 rfl) ?_
      refine lv_iconst (v := 0) hx hb dX10_countStepsTo_32 (by decide) ?_
      obtain ⟨h_3, hf⟩ := ifs hf
      refine ast (wC g a) C hP (wC_D hJ) hS 31 0 (aC_31 g a M) rfl (sC_31 g a M) h_3 dX10_countStepsTo_33 (fun H locs hP hS => ?_)
      obtain ⟨M4, eM4, hf⟩ := nms hf
      have hP : va_P D clL (wC g a M4) H := by rw [eM4]; exact hP
      refine lv_aload_n hx hb dX10_countStepsTo_34 rfl (lv_at hl 0 rfl) ?_
      refine fg_X10_24 C hP dX10_countStepsTo_35 ?_
      refine lv_iconst (v := 0) hx hb dX10_countStepsTo_38 (by decide) ?_
      refine lv_iload_n hx hb dX10_countStepsTo_39 rfl (lv_at hl 1 rfl) ?_
      obtain ⟨h_5, hf⟩ := ifs hf
      refine ast (wC g a) C hP (wC_D hJ) hS 32 0 (aC_32 g a M4) rfl (sC_32 g a M4) h_5 dX10_countStepsTo_40 (fun H locs hP hS => ?_)
      obtain ⟨M6, eM6, hf⟩ := nms hf
      have hP : va_P D clL (wC g a M6) H := by rw [eM6]; exact hP
      refine lv_iconst (v := 1) hx hb dX10_countStepsTo_41 (by decide) ?_
      refine lv_istore_n (lv' := [(3, .int 1), (0, .ref (a 3)), (1, .int x1), (2, .int x2)]) hx hb dX10_countStepsTo_42 rfl hl (by decide) rfl (fun ls hl => ?_)
      refine lv_iconst (v := 0) hx hb dX10_countStepsTo_43 (by decide) ?_
      refine lv_istore (lv' := [(4, .int 0), (3, .int 1), (0, .ref (a 3)), (1, .int x1), (2, .int x2)]) hx hb dX10_countStepsTo_44 hl (by decide) rfl (fun ls hl => ?_)
      exact w_X10_countStepsTo_l46 C hJ N x2 M' N M6 1 0 H locs hP hS ls (lv_sub hl [2, 4, 1, 0] rfl) hf
    · have hf := ifn c_2 hf
      refine lv_aload_n hx hb dX10_countStepsTo_13 rfl (lv_at hl 0 rfl) ?_
      refine fg_X10_21 C hP dX10_countStepsTo_14 ?_
      refine lv_iload_n hx hb dX10_countStepsTo_17 rfl (lv_at hl 3 rfl) ?_
      refine lv_bipush (v := (-9)) hx hb dX10_countStepsTo_18 (by decide) ?_
      obtain ⟨h_23, hf⟩ := ifs hf
      refine ast (wC g a) C hP (wC_D hJ) hS 31 0 (aC_31 g a M) rfl (sC_31 g a M) h_23 dX10_countStepsTo_20 (fun H locs hP hS => ?_)
      obtain ⟨M24, eM24, hf⟩ := nms hf
      have hP : va_P D clL (wC g a M24) H := by rw [eM24]; exact hP
      refine lv_iinc (v := (x3 + 1)) (lv' := [(3, .int (x3 + 1)), (0, .ref (a 3)), (1, .int x1), (2, .int x2)]) hx hb dX10_countStepsTo_21 hl (k := 3) rfl rfl (by decide) rfl (fun ls hl => ?_)
      refine lv_goto (tgt := 2) hx hb dX10_countStepsTo_24 (by decide) ?_
      exact ih M24 (x3 + 1) H locs hP hS ls (lv_sub hl [1, 2, 3, 0] rfl) hf
set_option maxHeartbeats 4000000 in
set_option maxRecDepth 100000 in
theorem c_X10_countStepsTo (l : Launch) (D : va_G) (g : Nat → ClassId) (a : Nat → Nat) (hJ : Inj a 41) (N : Nat) (M : Mem) (x1 : Int32) (x2 : Int32) (M' : Mem) (hf : f_X10_countStepsTo N M x1 x2 = some M') : Met l yX10_countStepsTo (cW yX10_countStepsTo cX10_countStepsTo 8 none) (rmv 1 23) (Pw D (tyL g) (wC g a M) [.ref (a 3), .int x1, .int x2]) (WvQ D (wC g a M') (inA a 41)) 0 0 (inA a 41) := by
  unfold f_X10_countStepsTo at hf
  refine met_inW (A := (inA a 41)) (by decide) (Nat.le_of_ble_eq_true rfl) ?_
  intro p e s m args below meth c ls H locs C hP hS hl
  have C : Cx p s m args meth c cX10_countStepsTo 8 none RX10 D (tyL g) := C
  obtain ⟨hx, hb, hr, hml, hown, ht, hlocks, hK, hN⟩ := id C
  have hl : lv_has ls 8 [(0, .ref (a 3)), (1, .int x1), (2, .int x2)] := hl
  refine lv_iconst (v := 0) hx hb dX10_countStepsTo_0 (by decide) ?_
  refine lv_istore_n (lv' := [(3, .int 0), (0, .ref (a 3)), (1, .int x1), (2, .int x2)]) hx hb dX10_countStepsTo_1 rfl hl (by decide) rfl (fun ls hl => ?_)
  exact w_X10_countStepsTo_l2 C hJ N x1 x2 M' N M 0 H locs hP hS ls (lv_sub hl [1, 2, 3, 0] rfl) hf
set_option maxHeartbeats 4000000 in
set_option maxRecDepth 100000 in
theorem w_X10_nextOnWay_l2 {p : Program} {l : Launch} {e : Env} {s : State} {m : MethodId} {args : Array Value} {below : List Frame} {meth : Method} {c : Code} {D : va_G} {g : Nat → ClassId} {a : Nat → Nat} (C : Cx p s m args meth c cX10_nextOnWay 5 (some .int) RX10 D (tyL g)) (N : Nat) (M : Mem) (hP : va_P D clL (wC g a M) s.heap) (x1 : Int32) (x2 : Int32) (r : Int32) :
    ∀ (n : Nat) (x3 : Int32), ∀ (ls : Array Slot), lv_has ls 5 [(0, .ref (a 3)), (1, .int x1), (2, .int x2), (3, .int x3)] → f_X10_nextOnWay_l2 N M x1 x2 n x3 = some r → W p l e (rmv 1 23) s m args below meth c s.heap [] 0 0 (MQ below (RdQ (.int r)) args s 0 0 nof) (F0 m 2 ls []) := by
  obtain ⟨hx, hb, hr, hml, hown, ht, hlocks, hK, hN⟩ := id C
  intro n
  induction n with
  | zero =>
    intro x3 ls hl hf
    exact nos hf
  | succ n ih =>
    intro x3 ls hl hf
    rw [f_X10_nextOnWay_l2] at hf
    refine lv_iload_n hx hb dX10_nextOnWay_2 rfl (lv_at hl 3 rfl) ?_
    refine lv_iconst (v := 4) hx hb dX10_nextOnWay_3 (by decide) ?_
    refine lv_icmp_ge (tgt := 64) hx hb dX10_nextOnWay_4 (by decide) (fun c_1 => ?_) (fun c_1 => ?_)
    · have hf := ifp c_1 hf
      refine lv_iload_n hx hb dX10_nextOnWay_64 rfl (lv_at hl 1 rfl) ?_
      obtain rfl := Option.some.inj hf
      exact retR C dX10_nextOnWay_65
    · have hf := ifn c_1 hf
      refine lv_aload_n hx hb dX10_nextOnWay_7 rfl (lv_at hl 0 rfl) ?_
      refine fg_X10_27 C hP dX10_nextOnWay_8 ?_
      refine lv_iload_n hx hb dX10_nextOnWay_11 rfl (lv_at hl 1 rfl) ?_
      refine lv_iload_n hx hb dX10_nextOnWay_12 rfl (lv_at hl 3 rfl) ?_
      obtain ⟨r2, e_2, hf⟩ := bns hf
      refine kR (rV (rest := []) C (c_X3_neighbour l D g a M x1 x3 r2 e_2) ok_X3_neighbour wd_392 hP 2 (aC_2 g a M) rfl ⟨rfl, rfl, Nat.le_of_ble_eq_true rfl, Nat.le_of_ble_eq_true rfl⟩ rfl hl.1 rfl (Nat.le_of_ble_eq_true rfl) dX10_nextOnWay_13 ⟨Nat.le_of_ble_eq_true rfl, Nat.le_of_ble_eq_true rfl⟩) ?_
      refine lv_istore (lv' := [(4, .int r2), (0, .ref (a 3)), (1, .int x1), (2, .int x2), (3, .int x3)]) hx hb dX10_nextOnWay_16 hl (by decide) rfl (fun ls hl => ?_)
      refine lv_iload hx hb dX10_nextOnWay_18 (lv_at hl 0 rfl) ?_
      refine lv_bipush (v := (-9)) hx hb dX10_nextOnWay_20 (by decide) ?_
      refine lv_icmp_eq (tgt := 58) hx hb dX10_nextOnWay_22 (by decide) (fun c_3 => ?_) (fun c_3 => ?_)
      · have hf := ifp c_3 hf
        refine lv_iinc (v := (x3 + 1)) (lv' := [(3, .int (x3 + 1)), (4, .int r2), (0, .ref (a 3)), (1, .int x1), (2, .int x2)]) hx hb dX10_nextOnWay_58 hl (k := 4) rfl rfl (by decide) rfl (fun ls hl => ?_)
        refine lv_goto (tgt := 2) hx hb dX10_nextOnWay_61 (by decide) ?_
        exact ih (x3 + 1) ls (lv_sub hl [2, 3, 4, 0] rfl) hf
      · have hf := ifn c_3 hf
        refine lv_aload_n hx hb dX10_nextOnWay_25 rfl (lv_at hl 1 rfl) ?_
        refine fg_X10_21 C hP dX10_nextOnWay_26 ?_
        refine lv_iload hx hb dX10_nextOnWay_29 (lv_at hl 0 rfl) ?_
        obtain ⟨h_4, hf⟩ := ifs hf
        refine va_iald hx hb hK hP 31 0 (aC_31 g a M) rfl h_4 dX10_nextOnWay_31 ?_
        refine lv_aload_n hx hb dX10_nextOnWay_32 rfl (lv_at hl 1 rfl) ?_
        refine fg_X10_21 C hP dX10_nextOnWay_33 ?_
        refine lv_iload_n hx hb dX10_nextOnWay_36 rfl (lv_at hl 2 rfl) ?_
        obtain ⟨h_5, hf⟩ := ifs hf
        refine va_iald hx hb hK hP 31 0 (aC_31 g a M) rfl h_5 dX10_nextOnWay_37 ?_
        refine lv_iconst (v := 1) hx hb dX10_nextOnWay_38 (by decide) ?_
        refine lv_isub hx hb dX10_nextOnWay_39 ?_
        refine lv_icmp_ne (tgt := 58) hx hb dX10_nextOnWay_40 (by decide) (fun c_6 => ?_) (fun c_6 => ?_)
        · have hf := ifn c_6 hf
          refine lv_iinc (v := (x3 + 1)) (lv' := [(3, .int (x3 + 1)), (4, .int r2), (0, .ref (a 3)), (1, .int x1), (2, .int x2)]) hx hb dX10_nextOnWay_58 hl (k := 4) rfl rfl (by decide) rfl (fun ls hl => ?_)
          refine lv_goto (tgt := 2) hx hb dX10_nextOnWay_61 (by decide) ?_
          exact ih (x3 + 1) ls (lv_sub hl [2, 3, 4, 0] rfl) hf
        · have hf := ifp c_6 hf
          refine lv_aload_n hx hb dX10_nextOnWay_43 rfl (lv_at hl 1 rfl) ?_
          refine lv_iload_n hx hb dX10_nextOnWay_44 rfl (lv_at hl 2 rfl) ?_
          refine lv_iload_n hx hb dX10_nextOnWay_45 rfl (lv_at hl 4 rfl) ?_
          refine lv_iload hx hb dX10_nextOnWay_46 (lv_at hl 0 rfl) ?_
          obtain ⟨r7, e_7, hf⟩ := bns hf
          refine kR (rV (rest := []) C (c_X10_stepAt l D g a M x1 x3 r2 r7 e_7) ok_X10_stepAt wd_410 hP 3 (aC_3 g a M) rfl ⟨rfl, rfl, Nat.le_of_ble_eq_true rfl, Nat.le_of_ble_eq_true rfl⟩ rfl hl.1 rfl (Nat.le_of_ble_eq_true rfl) dX10_nextOnWay_48 ⟨Nat.le_of_ble_eq_true rfl, Nat.le_of_ble_eq_true rfl⟩) ?_
          refine lv_iload_n hx hb dX10_nextOnWay_51 rfl (lv_at hl 3 rfl) ?_
          refine lv_icmp_gt (tgt := 58) hx hb dX10_nextOnWay_52 (by decide) (fun c_8 => ?_) (fun c_8 => ?_)
          · have hf := ifp c_8 hf
            refine lv_iinc (v := (x3 + 1)) (lv' := [(3, .int (x3 + 1)), (4, .int r2), (0, .ref (a 3)), (1, .int x1), (2, .int x2)]) hx hb dX10_nextOnWay_58 hl (k := 4) rfl rfl (by decide) rfl (fun ls hl => ?_)
            refine lv_goto (tgt := 2) hx hb dX10_nextOnWay_61 (by decide) ?_
            exact ih (x3 + 1) ls (lv_sub hl [2, 3, 4, 0] rfl) hf
          · have hf := ifn c_8 hf
            refine lv_iload hx hb dX10_nextOnWay_55 (lv_at hl 0 rfl) ?_
            obtain rfl := Option.some.inj hf
            exact retR C dX10_nextOnWay_57
set_option maxHeartbeats 4000000 in
set_option maxRecDepth 100000 in
theorem c_X10_nextOnWay (l : Launch) (D : va_G) (g : Nat → ClassId) (a : Nat → Nat) (N : Nat) (M : Mem) (x1 : Int32) (x2 : Int32) (r : Int32) (hf : f_X10_nextOnWay N M x1 x2 = some r) : Met l yX10_nextOnWay (cW yX10_nextOnWay cX10_nextOnWay 5 (some .int)) (rmv 1 23) (Pw D (tyL g) (wC g a M) [.ref (a 3), .int x1, .int x2]) (RdQ (.int r)) 0 0 nof := by
  unfold f_X10_nextOnWay at hf
  refine met_in (by decide) (Nat.le_of_ble_eq_true rfl) ?_
  intro p e s m args below meth c ls C hP hl
  have C : Cx p s m args meth c cX10_nextOnWay 5 (some .int) RX10 D (tyL g) := C
  obtain ⟨hx, hb, hr, hml, hown, ht, hlocks, hK, hN⟩ := id C
  have hl : lv_has ls 5 [(0, .ref (a 3)), (1, .int x1), (2, .int x2)] := hl
  refine lv_iconst (v := 0) hx hb dX10_nextOnWay_0 (by decide) ?_
  refine lv_istore_n (lv' := [(3, .int 0), (0, .ref (a 3)), (1, .int x1), (2, .int x2)]) hx hb dX10_nextOnWay_1 rfl hl (by decide) rfl (fun ls hl => ?_)
  exact w_X10_nextOnWay_l2 C N M hP x1 x2 r N 0 ls (lv_sub hl [1, 2, 3, 0] rfl) hf
set_option maxHeartbeats 4000000 in
set_option maxRecDepth 100000 in
theorem w_X10_stoneBehind_l19 {p : Program} {l : Launch} {e : Env} {s : State} {m : MethodId} {args : Array Value} {below : List Frame} {meth : Method} {c : Code} {D : va_G} {g : Nat → ClassId} {a : Nat → Nat} (C : Cx p s m args meth c cX10_stoneBehind 6 (some .int) RX10 D (tyL g)) (N : Nat) (M : Mem) (hP : va_P D clL (wC g a M) s.heap) (x2 : Int32) (x3 : Int32) (r : Int32) :
    ∀ (n : Nat) (x4 : Int32) (x5 : Int32), ∀ (ls : Array Slot), lv_has ls 6 [(0, .ref (a 3)), (2, .int x2), (3, .int x3), (4, .int x4), (5, .int x5)] → f_X10_stoneBehind_l19 N M x2 x3 n x4 x5 = some r → W p l e (rmv 2 47) s m args below meth c s.heap [] 0 0 (MQ below (RdQ (.int r)) args s 0 0 nof) (F0 m 19 ls []) := by
  obtain ⟨hx, hb, hr, hml, hown, ht, hlocks, hK, hN⟩ := id C
  intro n
  induction n with
  | zero =>
    intro x4 x5 ls hl hf
    exact nos hf
  | succ n ih =>
    intro x4 x5 ls hl hf
    rw [f_X10_stoneBehind_l19] at hf
    refine lv_iload hx hb dX10_stoneBehind_19 (lv_at hl 4 rfl) ?_
    refine lv_iload_n hx hb dX10_stoneBehind_21 rfl (lv_at hl 2 rfl) ?_
    refine lv_icmp_ge (tgt := 40) hx hb dX10_stoneBehind_22 (by decide) (fun c_3 => ?_) (fun c_3 => ?_)
    · have hf := ifp c_3 hf
      refine lv_iload hx hb dX10_stoneBehind_40 (lv_at hl 3 rfl) ?_
      obtain rfl := Option.some.inj hf
      exact retR C dX10_stoneBehind_42
    · have hf := ifn c_3 hf
      refine lv_aload_n hx hb dX10_stoneBehind_25 rfl (lv_at hl 0 rfl) ?_
      refine lv_iload hx hb dX10_stoneBehind_26 (lv_at hl 3 rfl) ?_
      refine lv_iload_n hx hb dX10_stoneBehind_28 rfl (lv_at hl 1 rfl) ?_
      obtain ⟨r4, e_4, hf⟩ := bns hf
      refine kR (rV (rest := []) C (c_X10_nextOnWay l D g a N M x4 x2 r4 e_4) ok_X10_nextOnWay wd_418 hP 3 (aC_3 g a M) rfl ⟨rfl, rfl, Nat.le_of_ble_eq_true rfl, Nat.le_of_ble_eq_true rfl⟩ rfl hl.1 rfl (Nat.le_of_ble_eq_true rfl) dX10_stoneBehind_29 ⟨Nat.le_of_ble_eq_true rfl, Nat.le_of_ble_eq_true rfl⟩) ?_
      refine lv_istore (lv' := [(4, .int r4), (0, .ref (a 3)), (2, .int x2), (3, .int x3), (5, .int x5)]) hx hb dX10_stoneBehind_32 hl (by decide) rfl (fun ls hl => ?_)
      refine lv_iinc (v := (x5 + 1)) (lv' := [(5, .int (x5 + 1)), (4, .int r4), (0, .ref (a 3)), (2, .int x2), (3, .int x3)]) hx hb dX10_stoneBehind_34 hl (k := 4) rfl rfl (by decide) rfl (fun ls hl => ?_)
      refine lv_goto (tgt := 19) hx hb dX10_stoneBehind_37 (by decide) ?_
      exact ih r4 (x5 + 1) ls (lv_sub hl [2, 3, 4, 1, 0] rfl) hf
set_option maxHeartbeats 4000000 in
set_option maxRecDepth 100000 in
theorem c_X10_stoneBehind (l : Launch) (D : va_G) (g : Nat → ClassId) (a : Nat → Nat) (N : Nat) (M : Mem) (x1 : Int32) (x2 : Int32) (x3 : Int32) (r : Int32) (hf : f_X10_stoneBehind N M x1 x2 x3 = some r) : Met l yX10_stoneBehind (cW yX10_stoneBehind cX10_stoneBehind 6 (some .int)) (rmv 2 47) (Pw D (tyL g) (wC g a M) [.ref (a 3), .int x1, .int x2, .int x3]) (RdQ (.int r)) 0 0 nof := by
  unfold f_X10_stoneBehind at hf
  refine met_in (by decide) (Nat.le_of_ble_eq_true rfl) ?_
  intro p e s m args below meth c ls C hP hl
  have C : Cx p s m args meth c cX10_stoneBehind 6 (some .int) RX10 D (tyL g) := C
  obtain ⟨hx, hb, hr, hml, hown, ht, hlocks, hK, hN⟩ := id C
  have hl : lv_has ls 6 [(0, .ref (a 3)), (1, .int x1), (2, .int x2), (3, .int x3)] := hl
  refine lv_iload_n hx hb dX10_stoneBehind_0 rfl (lv_at hl 3 rfl) ?_
  refine lv_aload_n hx hb dX10_stoneBehind_1 rfl (lv_at hl 0 rfl) ?_
  refine fg_X10_21 C hP dX10_stoneBehind_2 ?_
  refine lv_iload_n hx hb dX10_stoneBehind_5 rfl (lv_at hl 1 rfl) ?_
  obtain ⟨h_1, hf⟩ := ifs hf
  refine va_iald hx hb hK hP 31 0 (aC_31 g a M) rfl h_1 dX10_stoneBehind_6 ?_
  refine lv_icmp_le (tgt := 13) hx hb dX10_stoneBehind_7 (by decide) (fun c_2 => ?_) (fun c_2 => ?_)
  · have hf := ifp c_2 hf
    refine lv_iload_n hx hb dX10_stoneBehind_13 rfl (lv_at hl 1 rfl) ?_
    refine lv_istore (lv' := [(4, .int x1), (0, .ref (a 3)), (1, .int x1), (2, .int x2), (3, .int x3)]) hx hb dX10_stoneBehind_14 hl (by decide) rfl (fun ls hl => ?_)
    refine lv_iconst (v := 0) hx hb dX10_stoneBehind_16 (by decide) ?_
    refine lv_istore (lv' := [(5, .int 0), (4, .int x1), (0, .ref (a 3)), (1, .int x1), (2, .int x2), (3, .int x3)]) hx hb dX10_stoneBehind_17 hl (by decide) rfl (fun ls hl => ?_)
    exact w_X10_stoneBehind_l19 C N M hP x2 x3 r N x1 0 ls (lv_sub hl [2, 4, 5, 1, 0] rfl) hf
  · have hf := ifn c_2 hf
    refine lv_bipush (v := (-9)) hx hb dX10_stoneBehind_10 (by decide) ?_
    obtain rfl := Option.some.inj hf
    exact retR C dX10_stoneBehind_12
set_option maxHeartbeats 4000000 in
set_option maxRecDepth 100000 in
theorem w_X10_leastByNeighbours_l9 {p : Program} {l : Launch} {e : Env} {s : State} {m : MethodId} {args : Array Value} {below : List Frame} {meth : Method} {c : Code} {D : va_G} {g : Nat → ClassId} {a : Nat → Nat} (C : Cx p s m args meth c cX10_leastByNeighbours 5 (some .int) RX10 D (tyL g)) (N : Nat) (M : Mem) (hP : va_P D clL (wC g a M) s.heap) (x1 : Int32) (r : Int32) :
    ∀ (n : Nat) (x2 : Int32) (x3 : Int32), ∀ (ls : Array Slot), lv_has ls 5 [(0, .ref (a 3)), (1, .int x1), (2, .int x2), (3, .int x3)] → f_X10_leastByNeighbours_l9 N M x1 n x2 x3 = some r → W p l e (rmv 1 23) s m args below meth c s.heap [] 0 0 (MQ below (RdQ (.int r)) args s 0 0 nof) (F0 m 9 ls []) := by
  obtain ⟨hx, hb, hr, hml, hown, ht, hlocks, hK, hN⟩ := id C
  intro n
  induction n with
  | zero =>
    intro x2 x3 ls hl hf
    exact nos hf
  | succ n ih =>
    intro x2 x3 ls hl hf
    rw [f_X10_leastByNeighbours_l9] at hf
    refine lv_iload_n hx hb dX10_leastByNeighbours_9 rfl (lv_at hl 3 rfl) ?_
    refine lv_iconst (v := 4) hx hb dX10_leastByNeighbours_10 (by decide) ?_
    refine lv_icmp_ge (tgt := 61) hx hb dX10_leastByNeighbours_11 (by decide) (fun c_3 => ?_) (fun c_3 => ?_)
    · have hf := ifp c_3 hf
      refine lv_iload_n hx hb dX10_leastByNeighbours_61 rfl (lv_at hl 2 rfl) ?_
      obtain rfl := Option.some.inj hf
      exact retR C dX10_leastByNeighbours_62
    · have hf := ifn c_3 hf
      refine lv_aload_n hx hb dX10_leastByNeighbours_14 rfl (lv_at hl 0 rfl) ?_
      refine fg_X10_27 C hP dX10_leastByNeighbours_15 ?_
      refine lv_iload_n hx hb dX10_leastByNeighbours_18 rfl (lv_at hl 1 rfl) ?_
      refine lv_iload_n hx hb dX10_leastByNeighbours_19 rfl (lv_at hl 3 rfl) ?_
      obtain ⟨r4, e_4, hf⟩ := bns hf
      refine kR (rV (rest := []) C (c_X3_neighbour l D g a M x1 x3 r4 e_4) ok_X3_neighbour wd_392 hP 2 (aC_2 g a M) rfl ⟨rfl, rfl, Nat.le_of_ble_eq_true rfl, Nat.le_of_ble_eq_true rfl⟩ rfl hl.1 rfl (Nat.le_of_ble_eq_true rfl) dX10_leastByNeighbours_20 ⟨Nat.le_of_ble_eq_true rfl, Nat.le_of_ble_eq_true rfl⟩) ?_
      refine lv_istore (lv' := [(4, .int r4), (0, .ref (a 3)), (1, .int x1), (2, .int x2), (3, .int x3)]) hx hb dX10_leastByNeighbours_23 hl (by decide) rfl (fun ls hl => ?_)
      refine lv_iload hx hb dX10_leastByNeighbours_25 (lv_at hl 0 rfl) ?_
      refine lv_bipush (v := (-9)) hx hb dX10_leastByNeighbours_27 (by decide) ?_
      refine lv_icmp_eq (tgt := 55) hx hb dX10_leastByNeighbours_29 (by decide) (fun c_5 => ?_) (fun c_5 => ?_)
      · have hf := ifp c_5 hf
        refine lv_iinc (v := (x3 + 1)) (lv' := [(3, .int (x3 + 1)), (4, .int r4), (0, .ref (a 3)), (1, .int x1), (2, .int x2)]) hx hb dX10_leastByNeighbours_55 hl (k := 4) rfl rfl (by decide) rfl (fun ls hl => ?_)
        refine lv_goto (tgt := 9) hx hb dX10_leastByNeighbours_58 (by decide) ?_
        exact ih x2 (x3 + 1) ls (lv_sub hl [2, 3, 4, 0] rfl) hf
      · have hf := ifn c_5 hf
        refine lv_iload_n hx hb dX10_leastByNeighbours_32 rfl (lv_at hl 3 rfl) ?_
        refine lv_aload_n hx hb dX10_leastByNeighbours_33 rfl (lv_at hl 1 rfl) ?_
        refine fg_X10_21 C hP dX10_leastByNeighbours_34 ?_
        refine lv_iload hx hb dX10_leastByNeighbours_37 (lv_at hl 0 rfl) ?_
        obtain ⟨h_6, hf⟩ := ifs hf
        refine va_iald hx hb hK hP 31 0 (aC_31 g a M) rfl h_6 dX10_leastByNeighbours_39 ?_
        refine lv_aload_n hx hb dX10_leastByNeighbours_40 rfl (lv_at hl 1 rfl) ?_
        refine lv_iload_n hx hb dX10_leastByNeighbours_41 rfl (lv_at hl 2 rfl) ?_
        refine lv_iload_n hx hb dX10_leastByNeighbours_42 rfl (lv_at hl 4 rfl) ?_
        refine lv_iload hx hb dX10_leastByNeighbours_43 (lv_at hl 0 rfl) ?_
        obtain ⟨r7, e_7, hf⟩ := bns hf
        refine kR (rV (rest := [.int (M 31 r4.toNatClampNeg), .int x2]) C (c_X10_stepAt l D g a M x1 x3 r4 r7 e_7) ok_X10_stepAt wd_410 hP 3 (aC_3 g a M) rfl ⟨rfl, rfl, Nat.le_of_ble_eq_true rfl, Nat.le_of_ble_eq_true rfl⟩ rfl hl.1 rfl (Nat.le_of_ble_eq_true rfl) dX10_leastByNeighbours_45 ⟨Nat.le_of_ble_eq_true rfl, Nat.le_of_ble_eq_true rfl⟩) ?_
        refine va_mmax hx hb (hml.trans hl.1.symm) hown (ht _ wd_403) (ht _ wd_404) (ht _ wd_14) (ht _ wd_405) (Nat.le_of_ble_eq_true rfl) (Nat.le_of_ble_eq_true rfl) (Nat.le_refl _) (Nat.le_refl _) dX10_leastByNeighbours_48 ?_
        refine va_mmin hx hb (hml.trans hl.1.symm) hown (ht _ wd_439) (ht _ wd_440) (ht _ wd_14) (ht _ wd_441) (Nat.le_of_ble_eq_true rfl) (Nat.le_of_ble_eq_true rfl) (Nat.le_refl _) (Nat.le_refl _) dX10_leastByNeighbours_51 ?_
        refine lv_topi (fun z8 ez8 => ?_)
        have hf := nmr ez8 hf
        refine lv_istore_n (lv' := [(2, .int z8), (4, .int r4), (0, .ref (a 3)), (1, .int x1), (3, .int x3)]) hx hb dX10_leastByNeighbours_54 rfl hl (by decide) rfl (fun ls hl => ?_)
        refine lv_iinc (v := (x3 + 1)) (lv' := [(3, .int (x3 + 1)), (2, .int z8), (4, .int r4), (0, .ref (a 3)), (1, .int x1)]) hx hb dX10_leastByNeighbours_55 hl (k := 4) rfl rfl (by decide) rfl (fun ls hl => ?_)
        refine lv_goto (tgt := 9) hx hb dX10_leastByNeighbours_58 (by decide) ?_
        exact ih z8 (x3 + 1) ls (lv_sub hl [3, 4, 1, 0] rfl) hf
set_option maxHeartbeats 4000000 in
set_option maxRecDepth 100000 in
theorem c_X10_leastByNeighbours (l : Launch) (D : va_G) (g : Nat → ClassId) (a : Nat → Nat) (N : Nat) (M : Mem) (x1 : Int32) (r : Int32) (hf : f_X10_leastByNeighbours N M x1 = some r) : Met l yX10_leastByNeighbours (cW yX10_leastByNeighbours cX10_leastByNeighbours 5 (some .int)) (rmv 1 23) (Pw D (tyL g) (wC g a M) [.ref (a 3), .int x1]) (RdQ (.int r)) 0 0 nof := by
  unfold f_X10_leastByNeighbours at hf
  refine met_in (by decide) (Nat.le_of_ble_eq_true rfl) ?_
  intro p e s m args below meth c ls C hP hl
  have C : Cx p s m args meth c cX10_leastByNeighbours 5 (some .int) RX10 D (tyL g) := C
  obtain ⟨hx, hb, hr, hml, hown, ht, hlocks, hK, hN⟩ := id C
  have hl : lv_has ls 5 [(0, .ref (a 3)), (1, .int x1)] := hl
  refine lv_aload_n hx hb dX10_leastByNeighbours_0 rfl (lv_at hl 0 rfl) ?_
  refine fg_X10_21 C hP dX10_leastByNeighbours_1 ?_
  refine lv_iload_n hx hb dX10_leastByNeighbours_4 rfl (lv_at hl 1 rfl) ?_
  obtain ⟨h_1, hf⟩ := ifs hf
  refine va_iald hx hb hK hP 31 0 (aC_31 g a M) rfl h_1 dX10_leastByNeighbours_5 ?_
  refine lv_topi (fun z2 ez2 => ?_)
  have hf := nmr ez2 hf
  refine lv_istore_n (lv' := [(2, .int z2), (0, .ref (a 3)), (1, .int x1)]) hx hb dX10_leastByNeighbours_6 rfl hl (by decide) rfl (fun ls hl => ?_)
  refine lv_iconst (v := 0) hx hb dX10_leastByNeighbours_7 (by decide) ?_
  refine lv_istore_n (lv' := [(3, .int 0), (2, .int z2), (0, .ref (a 3)), (1, .int x1)]) hx hb dX10_leastByNeighbours_8 rfl hl (by decide) rfl (fun ls hl => ?_)
  exact w_X10_leastByNeighbours_l9 C N M hP x1 r N z2 0 ls (lv_sub hl [2, 3, 1, 0] rfl) hf
set_option maxHeartbeats 4000000 in
set_option maxRecDepth 100000 in
theorem w_X10_leastBetween_l55 {p : Program} {l : Launch} {e : Env} {s : State} {m : MethodId} {args : Array Value} {below : List Frame} {meth : Method} {c : Code} {D : va_G} {g : Nat → ClassId} {a : Nat → Nat} (C : Cx p s m args meth c cX10_leastBetween 7 (some .int) RX10 D (tyL g)) (hJ : Inj a 41) (N : Nat) (x2 : Int32) (x4 : Int32) (r : Int32) (M' : Mem) (kc : Mem → Int32 → Option (Int32 × Mem)) (hkc : ∀ (M : Mem), ∀ (y3 : Int32), ∀ (H : Heap) (locs : List Loc), va_P D clL (wC g a M) H → va_S (inA a 41) s.heap H locs → ∀ (ls : Array Slot), lv_has ls 7 [(0, .ref (a 3)), (2, .int x2), (3, .int y3), (4, .int x4)] → kc M y3 = some (r, M') → W p l e (rmv 2 47) s m args below meth c H locs 0 0 (MQ below (WrQ D (wC g a M') (inA a 41) (.int r)) args s 0 0 (inA a 41)) (F0 m 112 ls [])) :
    ∀ (n : Nat) (M : Mem) (x3 : Int32) (x5 : Int32), ∀ (H : Heap) (locs : List Loc), va_P D clL (wC g a M) H → va_S (inA a 41) s.heap H locs → ∀ (ls : Array Slot), lv_has ls 7 [(0, .ref (a 3)), (2, .int x2), (3, .int x3), (4, .int x4), (5, .int x5)] → f_X10_leastBetween_l55 kc N n M x3 x5 = some (r, M') → W p l e (rmv 2 47) s m args below meth c H locs 0 0 (MQ below (WrQ D (wC g a M') (inA a 41) (.int r)) args s 0 0 (inA a 41)) (F0 m 55 ls []) := by
  obtain ⟨hx, hb, hr, hml, hown, ht, hlocks, hK, hN⟩ := id C
  intro n
  induction n with
  | zero =>
    intro M x3 x5 H locs hP hS ls hl hf
    exact nos hf
  | succ n ih =>
    intro M x3 x5 H locs hP hS ls hl hf
    rw [f_X10_leastBetween_l55] at hf
    refine lv_iload hx hb dX10_leastBetween_55 (lv_at hl 4 rfl) ?_
    refine lv_aload_n hx hb dX10_leastBetween_57 rfl (lv_at hl 0 rfl) ?_
    refine fg_X10_27 C hP dX10_leastBetween_58 ?_
    obtain ⟨r9, e_9, hf⟩ := bns hf
    refine kR (rV (rest := [.int x5]) C (c_X3_stones l D g a M r9 e_9) ok_X3_stones wd_386 hP 2 (aC_2 g a M) rfl ⟨rfl, rfl, Nat.le_of_ble_eq_true rfl, Nat.le_of_ble_eq_true rfl⟩ rfl hl.1 rfl (Nat.le_of_ble_eq_true rfl) dX10_leastBetween_61 ⟨Nat.le_of_ble_eq_true rfl, Nat.le_of_ble_eq_true rfl⟩) ?_
    refine lv_icmp_ge (tgt := 112) hx hb dX10_leastBetween_64 (by decide) (fun c_10 => ?_) (fun c_10 => ?_)
    · have hf := ifp c_10 hf
      exact hkc M x3 H locs hP hS ls (lv_sub hl [0, 1, 2, 3] rfl) hf
    · have hf := ifn c_10 hf
      refine lv_aload_n hx hb dX10_leastBetween_67 rfl (lv_at hl 0 rfl) ?_
      refine lv_iload hx hb dX10_leastBetween_68 (lv_at hl 4 rfl) ?_
      obtain ⟨r11, e_11, hf⟩ := bns hf
      refine kR (rV (rest := []) C (c_X10_leastByNeighbours l D g a N M x5 r11 e_11) ok_X10_leastByNeighbours wd_435 hP 3 (aC_3 g a M) rfl ⟨rfl, rfl, Nat.le_of_ble_eq_true rfl, Nat.le_of_ble_eq_true rfl⟩ rfl hl.1 rfl (Nat.le_of_ble_eq_true rfl) dX10_leastBetween_70 ⟨Nat.le_of_ble_eq_true rfl, Nat.le_of_ble_eq_true rfl⟩) ?_
      refine lv_istore (lv' := [(6, .int r11), (0, .ref (a 3)), (2, .int x2), (3, .int x3), (4, .int x4), (5, .int x5)]) hx hb dX10_leastBetween_73 hl (by decide) rfl (fun ls hl => ?_)
      refine lv_iload_n hx hb dX10_leastBetween_75 rfl (lv_at hl 3 rfl) ?_
      refine lv_if_ne (tgt := 91) hx hb dX10_leastBetween_76 (by decide) (fun c_12 => ?_) (fun c_12 => ?_)
      · have hf := ifn c_12 hf
        refine lv_iconst (v := 1) hx hb dX10_leastBetween_91 (by decide) ?_
        refine lv_goto (tgt := 96) hx hb dX10_leastBetween_92 (by decide) ?_
        refine lv_istore_n (lv' := [(3, .int 1), (6, .int r11), (0, .ref (a 3)), (2, .int x2), (4, .int x4), (5, .int x5)]) hx hb dX10_leastBetween_96 rfl hl (by decide) rfl (fun ls hl => ?_)
        refine lv_aload_n hx hb dX10_leastBetween_97 rfl (lv_at hl 2 rfl) ?_
        refine fg_X10_21 C hP dX10_leastBetween_98 ?_
        refine lv_iload hx hb dX10_leastBetween_101 (lv_at hl 5 rfl) ?_
        refine lv_iload hx hb dX10_leastBetween_103 (lv_at hl 1 rfl) ?_
        obtain ⟨h_13, hf⟩ := ifs hf
        refine ast (wC g a) C hP (wC_D hJ) hS 31 0 (aC_31 g a M) rfl (sC_31 g a M) h_13 dX10_leastBetween_105 (fun H locs hP hS => ?_)
        obtain ⟨M14, eM14, hf⟩ := nms hf
        have hP : va_P D clL (wC g a M14) H := by rw [eM14]; exact hP
        refine lv_iinc (v := (x5 + 1)) (lv' := [(5, .int (x5 + 1)), (3, .int 1), (6, .int r11), (0, .ref (a 3)), (2, .int x2), (4, .int x4)]) hx hb dX10_leastBetween_106 hl (k := 5) rfl rfl (by decide) rfl (fun ls hl => ?_)
        refine lv_goto (tgt := 55) hx hb dX10_leastBetween_109 (by decide) ?_
        exact ih M14 1 (x5 + 1) H locs hP hS ls (lv_sub hl [3, 4, 1, 5, 0] rfl) hf
      · have hf := ifp c_12 hf
        refine lv_iload hx hb dX10_leastBetween_79 (lv_at hl 0 rfl) ?_
        refine lv_aload_n hx hb dX10_leastBetween_81 rfl (lv_at hl 1 rfl) ?_
        refine fg_X10_21 C hP dX10_leastBetween_82 ?_
        refine lv_iload hx hb dX10_leastBetween_85 (lv_at hl 5 rfl) ?_
        obtain ⟨h_15, hf⟩ := ifs hf
        refine va_iald hx hb hK hP 31 0 (aC_31 g a M) rfl h_15 dX10_leastBetween_87 ?_
        refine lv_icmp_ge (tgt := 95) hx hb dX10_leastBetween_88 (by decide) (fun c_16 => ?_) (fun c_16 => ?_)
        · have hf := ifp c_16 hf
          refine lv_iconst (v := 0) hx hb dX10_leastBetween_95 (by decide) ?_
          refine lv_istore_n (lv' := [(3, .int 0), (6, .int r11), (0, .ref (a 3)), (2, .int x2), (4, .int x4), (5, .int x5)]) hx hb dX10_leastBetween_96 rfl hl (by decide) rfl (fun ls hl => ?_)
          refine lv_aload_n hx hb dX10_leastBetween_97 rfl (lv_at hl 2 rfl) ?_
          refine fg_X10_21 C hP dX10_leastBetween_98 ?_
          refine lv_iload hx hb dX10_leastBetween_101 (lv_at hl 5 rfl) ?_
          refine lv_iload hx hb dX10_leastBetween_103 (lv_at hl 1 rfl) ?_
          refine ast (wC g a) C hP (wC_D hJ) hS 31 0 (aC_31 g a M) rfl (sC_31 g a M) h_15 dX10_leastBetween_105 (fun H locs hP hS => ?_)
          obtain ⟨M17, eM17, hf⟩ := nms hf
          have hP : va_P D clL (wC g a M17) H := by rw [eM17]; exact hP
          refine lv_iinc (v := (x5 + 1)) (lv' := [(5, .int (x5 + 1)), (3, .int 0), (6, .int r11), (0, .ref (a 3)), (2, .int x2), (4, .int x4)]) hx hb dX10_leastBetween_106 hl (k := 5) rfl rfl (by decide) rfl (fun ls hl => ?_)
          refine lv_goto (tgt := 55) hx hb dX10_leastBetween_109 (by decide) ?_
          exact ih M17 0 (x5 + 1) H locs hP hS ls (lv_sub hl [3, 4, 1, 5, 0] rfl) hf
        · have hf := ifn c_16 hf
          refine lv_iconst (v := 1) hx hb dX10_leastBetween_91 (by decide) ?_
          refine lv_goto (tgt := 96) hx hb dX10_leastBetween_92 (by decide) ?_
          refine lv_istore_n (lv' := [(3, .int 1), (6, .int r11), (0, .ref (a 3)), (2, .int x2), (4, .int x4), (5, .int x5)]) hx hb dX10_leastBetween_96 rfl hl (by decide) rfl (fun ls hl => ?_)
          refine lv_aload_n hx hb dX10_leastBetween_97 rfl (lv_at hl 2 rfl) ?_
          refine fg_X10_21 C hP dX10_leastBetween_98 ?_
          refine lv_iload hx hb dX10_leastBetween_101 (lv_at hl 5 rfl) ?_
          refine lv_iload hx hb dX10_leastBetween_103 (lv_at hl 1 rfl) ?_
          refine ast (wC g a) C hP (wC_D hJ) hS 31 0 (aC_31 g a M) rfl (sC_31 g a M) h_15 dX10_leastBetween_105 (fun H locs hP hS => ?_)
          obtain ⟨M18, eM18, hf⟩ := nms hf
          have hP : va_P D clL (wC g a M18) H := by rw [eM18]; exact hP
          refine lv_iinc (v := (x5 + 1)) (lv' := [(5, .int (x5 + 1)), (3, .int 1), (6, .int r11), (0, .ref (a 3)), (2, .int x2), (4, .int x4)]) hx hb dX10_leastBetween_106 hl (k := 5) rfl rfl (by decide) rfl (fun ls hl => ?_)
          refine lv_goto (tgt := 55) hx hb dX10_leastBetween_109 (by decide) ?_
          exact ih M18 1 (x5 + 1) H locs hP hS ls (lv_sub hl [3, 4, 1, 5, 0] rfl) hf
set_option maxHeartbeats 4000000 in
set_option maxRecDepth 100000 in
theorem w_X10_leastBetween_l39 {p : Program} {l : Launch} {e : Env} {s : State} {m : MethodId} {args : Array Value} {below : List Frame} {meth : Method} {c : Code} {D : va_G} {g : Nat → ClassId} {a : Nat → Nat} (C : Cx p s m args meth c cX10_leastBetween 7 (some .int) RX10 D (tyL g)) (hJ : Inj a 41) (N : Nat) (x2 : Int32) (r : Int32) (M' : Mem) :
    ∀ (n : Nat) (M : Mem) (x3 : Int32) (x4 : Int32), ∀ (H : Heap) (locs : List Loc), va_P D clL (wC g a M) H → va_S (inA a 41) s.heap H locs → ∀ (ls : Array Slot), lv_has ls 7 [(0, .ref (a 3)), (2, .int x2), (3, .int x3), (4, .int x4)] → f_X10_leastBetween_l39 N x2 n M x3 x4 = some (r, M') → W p l e (rmv 2 47) s m args below meth c H locs 0 0 (MQ below (WrQ D (wC g a M') (inA a 41) (.int r)) args s 0 0 (inA a 41)) (F0 m 39 ls []) := by
  obtain ⟨hx, hb, hr, hml, hown, ht, hlocks, hK, hN⟩ := id C
  intro n
  induction n with
  | zero =>
    intro M x3 x4 H locs hP hS ls hl hf
    exact nos hf
  | succ n ih =>
    intro M x3 x4 H locs hP hS ls hl hf
    rw [f_X10_leastBetween_l39] at hf
    refine lv_iload_n hx hb dX10_leastBetween_39 rfl (lv_at hl 2 rfl) ?_
    refine lv_if_eq (tgt := 118) hx hb dX10_leastBetween_40 (by decide) (fun c_5 => ?_) (fun c_5 => ?_)
    · have hf := ifp c_5 hf
      refine lv_aload_n hx hb dX10_leastBetween_118 rfl (lv_at hl 0 rfl) ?_
      refine fg_X10_21 C hP dX10_leastBetween_119 ?_
      refine lv_iload_n hx hb dX10_leastBetween_122 rfl (lv_at hl 1 rfl) ?_
      obtain ⟨h_6, hf⟩ := ifs hf
      refine va_iald hx hb hK hP 31 0 (aC_31 g a M) rfl h_6 dX10_leastBetween_123 ?_
      obtain ⟨rfl, rfl⟩ := Prod.mk.inj (Option.some.inj hf)
      exact retW C hP hS dX10_leastBetween_124
    · have hf := ifn c_5 hf
      refine lv_iload hx hb dX10_leastBetween_43 (lv_at hl 3 rfl) ?_
      refine lv_bipush (v := 30) hx hb dX10_leastBetween_45 (by decide) ?_
      refine lv_icmp_ge (tgt := 118) hx hb dX10_leastBetween_47 (by decide) (fun c_7 => ?_) (fun c_7 => ?_)
      · have hf := ifp c_7 hf
        refine lv_aload_n hx hb dX10_leastBetween_118 rfl (lv_at hl 0 rfl) ?_
        refine fg_X10_21 C hP dX10_leastBetween_119 ?_
        refine lv_iload_n hx hb dX10_leastBetween_122 rfl (lv_at hl 1 rfl) ?_
        obtain ⟨h_8, hf⟩ := ifs hf
        refine va_iald hx hb hK hP 31 0 (aC_31 g a M) rfl h_8 dX10_leastBetween_123 ?_
        obtain ⟨rfl, rfl⟩ := Prod.mk.inj (Option.some.inj hf)
        exact retW C hP hS dX10_leastBetween_124
      · have hf := ifn c_7 hf
        refine lv_iconst (v := 0) hx hb dX10_leastBetween_50 (by decide) ?_
        refine lv_istore_n (lv' := [(3, .int 0), (0, .ref (a 3)), (2, .int x2), (4, .int x4)]) hx hb dX10_leastBetween_51 rfl hl (by decide) rfl (fun ls hl => ?_)
        refine lv_iconst (v := 0) hx hb dX10_leastBetween_52 (by decide) ?_
        refine lv_istore (lv' := [(5, .int 0), (3, .int 0), (0, .ref (a 3)), (2, .int x2), (4, .int x4)]) hx hb dX10_leastBetween_53 hl (by decide) rfl (fun ls hl => ?_)
        refine w_X10_leastBetween_l55 C hJ N x2 x4 r M' _ (fun M19 y3_19 H locs hP hS ls hl hf => ?_) N M 0 0 H locs hP hS ls (lv_sub hl [2, 3, 1, 4, 0] rfl) hf
        refine lv_iinc (v := (x4 + 1)) (lv' := [(4, .int (x4 + 1)), (0, .ref (a 3)), (2, .int x2), (3, .int y3_19)]) hx hb dX10_leastBetween_112 hl (k := 3) rfl rfl (by decide) rfl (fun ls hl => ?_)
        refine lv_goto (tgt := 39) hx hb dX10_leastBetween_115 (by decide) ?_
        exact ih M19 y3_19 (x4 + 1) H locs hP hS ls (lv_sub hl [1, 2, 3, 0] rfl) hf
set_option maxHeartbeats 4000000 in
set_option maxRecDepth 100000 in
theorem w_X10_leastBetween_l2 {p : Program} {l : Launch} {e : Env} {s : State} {m : MethodId} {args : Array Value} {below : List Frame} {meth : Method} {c : Code} {D : va_G} {g : Nat → ClassId} {a : Nat → Nat} (C : Cx p s m args meth c cX10_leastBetween 7 (some .int) RX10 D (tyL g)) (hJ : Inj a 41) (N : Nat) (x1 : Int32) (x2 : Int32) (r : Int32) (M' : Mem) :
    ∀ (n : Nat) (M : Mem) (x3 : Int32), ∀ (H : Heap) (locs : List Loc), va_P D clL (wC g a M) H → va_S (inA a 41) s.heap H locs → ∀ (ls : Array Slot), lv_has ls 7 [(0, .ref (a 3)), (1, .int x1), (2, .int x2), (3, .int x3)] → f_X10_leastBetween_l2 N x1 x2 n M x3 = some (r, M') → W p l e (rmv 2 47) s m args below meth c H locs 0 0 (MQ below (WrQ D (wC g a M') (inA a 41) (.int r)) args s 0 0 (inA a 41)) (F0 m 2 ls []) := by
  obtain ⟨hx, hb, hr, hml, hown, ht, hlocks, hK, hN⟩ := id C
  intro n
  induction n with
  | zero =>
    intro M x3 H locs hP hS ls hl hf
    exact nos hf
  | succ n ih =>
    intro M x3 H locs hP hS ls hl hf
    rw [f_X10_leastBetween_l2] at hf
    refine lv_iload_n hx hb dX10_leastBetween_2 rfl (lv_at hl 3 rfl) ?_
    refine lv_aload_n hx hb dX10_leastBetween_3 rfl (lv_at hl 0 rfl) ?_
    refine fg_X10_27 C hP dX10_leastBetween_4 ?_
    obtain ⟨r1, e_1, hf⟩ := bns hf
    refine kR (rV (rest := [.int x3]) C (c_X3_stones l D g a M r1 e_1) ok_X3_stones wd_386 hP 2 (aC_2 g a M) rfl ⟨rfl, rfl, Nat.le_of_ble_eq_true rfl, Nat.le_of_ble_eq_true rfl⟩ rfl hl.1 rfl (Nat.le_of_ble_eq_true rfl) dX10_leastBetween_7 ⟨Nat.le_of_ble_eq_true rfl, Nat.le_of_ble_eq_true rfl⟩) ?_
    refine lv_icmp_ge (tgt := 27) hx hb dX10_leastBetween_10 (by decide) (fun c_2 => ?_) (fun c_2 => ?_)
    · have hf := ifp c_2 hf
      refine lv_aload_n hx hb dX10_leastBetween_27 rfl (lv_at hl 0 rfl) ?_
      refine fg_X10_21 C hP dX10_leastBetween_28 ?_
      refine lv_iload_n hx hb dX10_leastBetween_31 rfl (lv_at hl 1 rfl) ?_
      refine lv_iconst (v := 0) hx hb dX10_leastBetween_32 (by decide) ?_
      obtain ⟨h_3, hf⟩ := ifs hf
      refine ast (wC g a) C hP (wC_D hJ) hS 31 0 (aC_31 g a M) rfl (sC_31 g a M) h_3 dX10_leastBetween_33 (fun H locs hP hS => ?_)
      obtain ⟨M4, eM4, hf⟩ := nms hf
      have hP : va_P D clL (wC g a M4) H := by rw [eM4]; exact hP
      refine lv_iconst (v := 1) hx hb dX10_leastBetween_34 (by decide) ?_
      refine lv_istore_n (lv' := [(3, .int 1), (0, .ref (a 3)), (1, .int x1), (2, .int x2)]) hx hb dX10_leastBetween_35 rfl hl (by decide) rfl (fun ls hl => ?_)
      refine lv_iconst (v := 0) hx hb dX10_leastBetween_36 (by decide) ?_
      refine lv_istore (lv' := [(4, .int 0), (3, .int 1), (0, .ref (a 3)), (1, .int x1), (2, .int x2)]) hx hb dX10_leastBetween_37 hl (by decide) rfl (fun ls hl => ?_)
      exact w_X10_leastBetween_l39 C hJ N x2 r M' N M4 1 0 H locs hP hS ls (lv_sub hl [2, 4, 1, 0] rfl) hf
    · have hf := ifn c_2 hf
      refine lv_aload_n hx hb dX10_leastBetween_13 rfl (lv_at hl 0 rfl) ?_
      refine fg_X10_21 C hP dX10_leastBetween_14 ?_
      refine lv_iload_n hx hb dX10_leastBetween_17 rfl (lv_at hl 3 rfl) ?_
      refine lv_ldc hx hb hown (ht _ wd_434) dX10_leastBetween_18 ?_
      obtain ⟨h_20, hf⟩ := ifs hf
      refine ast (wC g a) C hP (wC_D hJ) hS 31 0 (aC_31 g a M) rfl (sC_31 g a M) h_20 dX10_leastBetween_20 (fun H locs hP hS => ?_)
      obtain ⟨M21, eM21, hf⟩ := nms hf
      have hP : va_P D clL (wC g a M21) H := by rw [eM21]; exact hP
      refine lv_iinc (v := (x3 + 1)) (lv' := [(3, .int (x3 + 1)), (0, .ref (a 3)), (1, .int x1), (2, .int x2)]) hx hb dX10_leastBetween_21 hl (k := 3) rfl rfl (by decide) rfl (fun ls hl => ?_)
      refine lv_goto (tgt := 2) hx hb dX10_leastBetween_24 (by decide) ?_
      exact ih M21 (x3 + 1) H locs hP hS ls (lv_sub hl [1, 2, 3, 0] rfl) hf
set_option maxHeartbeats 4000000 in
set_option maxRecDepth 100000 in
theorem c_X10_leastBetween (l : Launch) (D : va_G) (g : Nat → ClassId) (a : Nat → Nat) (hJ : Inj a 41) (N : Nat) (M : Mem) (x1 : Int32) (x2 : Int32) (r : Int32) (M' : Mem) (hf : f_X10_leastBetween N M x1 x2 = some (r, M')) : Met l yX10_leastBetween (cW yX10_leastBetween cX10_leastBetween 7 (some .int)) (rmv 2 47) (Pw D (tyL g) (wC g a M) [.ref (a 3), .int x1, .int x2]) (WrQ D (wC g a M') (inA a 41) (.int r)) 0 0 (inA a 41) := by
  unfold f_X10_leastBetween at hf
  refine met_inW (A := (inA a 41)) (by decide) (Nat.le_of_ble_eq_true rfl) ?_
  intro p e s m args below meth c ls H locs C hP hS hl
  have C : Cx p s m args meth c cX10_leastBetween 7 (some .int) RX10 D (tyL g) := C
  obtain ⟨hx, hb, hr, hml, hown, ht, hlocks, hK, hN⟩ := id C
  have hl : lv_has ls 7 [(0, .ref (a 3)), (1, .int x1), (2, .int x2)] := hl
  refine lv_iconst (v := 0) hx hb dX10_leastBetween_0 (by decide) ?_
  refine lv_istore_n (lv' := [(3, .int 0), (0, .ref (a 3)), (1, .int x1), (2, .int x2)]) hx hb dX10_leastBetween_1 rfl hl (by decide) rfl (fun ls hl => ?_)
  exact w_X10_leastBetween_l2 C hJ N x1 x2 r M' N M 0 H locs hP hS ls (lv_sub hl [1, 2, 3, 0] rfl) hf
