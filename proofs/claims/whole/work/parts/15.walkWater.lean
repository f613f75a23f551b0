set_option maxHeartbeats 4000000 in
set_option maxRecDepth 100000 in
theorem c_X9_measure (l : Launch) (D : va_G) (g : Nat → ClassId) (a : Nat → Nat) (hJ : Inj a 41) (N : Nat) (M : Mem) (x1 : Int32) (M' : Mem) (hf : f_X9_measure N M x1 = some M') : Met l yX9_measure (cW yX9_measure cX9_measure 2 none) (rmv 5 112) (Pw D (tyL g) (wC g a M) [.ref (a 5), .int x1]) (WvQ D (wC g a M') (inA a 41)) 0 0 (inA a 41) := by
  unfold f_X9_measure at hf
  refine met_inW (A := (inA a 41)) (by decide) (Nat.le_of_ble_eq_true rfl) ?_
  intro p e s m args below meth c ls H locs C hP hS hl
  have C : Cx p s m args meth c cX9_measure 2 none RX9 D (tyL g) := C
  obtain ⟨hx, hb, hr, hml, hown, ht, hlocks, hK, hN⟩ := id C
  have hl : lv_has ls 2 [(0, .ref (a 5)), (1, .int x1)] := hl
  refine lv_aload_n hx hb dX9_measure_0 rfl (lv_at hl 0 rfl) ?_
  refine fg_X9_18 C hP dX9_measure_1 ?_
  refine lv_iload_n hx hb dX9_measure_4 rfl (lv_at hl 1 rfl) ?_
  refine lv_aload_n hx hb dX9_measure_5 rfl (lv_at hl 0 rfl) ?_
  refine fg_X9_9 C hP dX9_measure_6 ?_
  obtain ⟨M1, e_1, hf⟩ := bns hf
  refine kWv (rV (rest := []) C (c_X3_writeHeights l D g a hJ N 35 (isH_35) M x1 M1 e_1) ok_X3_writeHeights wd_518 hP 2 (aC_2 g a M) rfl ⟨rfl, rfl, Nat.le_of_ble_eq_true rfl, Nat.le_of_ble_eq_true rfl⟩ rfl hl.1 rfl (Nat.le_of_ble_eq_true rfl) dX9_measure_9 ⟨Nat.le_of_ble_eq_true rfl, Nat.le_of_ble_eq_true rfl⟩) hS (fun H locs hP hS => ?_)
  obtain rfl := Option.some.inj hf
  exact retWv C hP hS dX9_measure_12
set_option maxHeartbeats 4000000 in
set_option maxRecDepth 100000 in
theorem w_X9_lowestBeside_l5 {p : Program} {l : Launch} {e : Env} {s : State} {m : MethodId} {args : Array Value} {below : List Frame} {meth : Method} {c : Code} {D : va_G} {g : Nat → ClassId} {a : Nat → Nat} (C : Cx p s m args meth c cX9_lowestBeside 5 (some .int) RX9 D (tyL g)) (N : Nat) (M : Mem) (hP : va_P D clL (wC g a M) s.heap) (x1 : Int32) (r : Int32) :
    ∀ (n : Nat) (x2 : Int32) (x3 : Int32), ∀ (ls : Array Slot), lv_has ls 5 [(0, .ref (a 5)), (1, .int x1), (2, .int x2), (3, .int x3)] → f_X9_lowestBeside_l5 N M x1 n x2 x3 = some r → W p l e (rmv 1 22) s m args below meth c s.heap [] 0 0 (MQ below (RdQ (.int r)) args s 0 0 nof) (F0 m 5 ls []) := by
  obtain ⟨hx, hb, hr, hml, hown, ht, hlocks, hK, hN⟩ := id C
  intro n
  induction n with
  | zero =>
    intro x2 x3 ls hl hf
    exact nos hf
  | succ n ih =>
    intro x2 x3 ls hl hf
    rw [f_X9_lowestBeside_l5] at hf
    refine lv_iload_n hx hb dX9_lowestBeside_5 rfl (lv_at hl 3 rfl) ?_
    refine lv_iconst (v := 4) hx hb dX9_lowestBeside_6 (by decide) ?_
    refine lv_icmp_ge (tgt := 46) hx hb dX9_lowestBeside_7 (by decide) (fun c_1 => ?_) (fun c_1 => ?_)
    · have hf := ifp c_1 hf
      refine lv_iload_n hx hb dX9_lowestBeside_46 rfl (lv_at hl 2 rfl) ?_
      obtain rfl := Option.some.inj hf
      exact retR C dX9_lowestBeside_47
    · have hf := ifn c_1 hf
      refine lv_aload_n hx hb dX9_lowestBeside_10 rfl (lv_at hl 0 rfl) ?_
      refine fg_X9_18 C hP dX9_lowestBeside_11 ?_
      refine lv_iload_n hx hb dX9_lowestBeside_14 rfl (lv_at hl 1 rfl) ?_
      refine lv_iload_n hx hb dX9_lowestBeside_15 rfl (lv_at hl 3 rfl) ?_
      obtain ⟨r2, e_2, hf⟩ := bns hf
      refine kR (rV (rest := []) C (c_X3_neighbour l D g a M x1 x3 r2 e_2) ok_X3_neighbour wd_533 hP 2 (aC_2 g a M) rfl ⟨rfl, rfl, Nat.le_of_ble_eq_true rfl, Nat.le_of_ble_eq_true rfl⟩ rfl hl.1 rfl (Nat.le_of_ble_eq_true rfl) dX9_lowestBeside_16 ⟨Nat.le_of_ble_eq_true rfl, Nat.le_of_ble_eq_true rfl⟩) ?_
      refine lv_istore (lv' := [(4, .int r2), (0, .ref (a 5)), (1, .int x1), (2, .int x2), (3, .int x3)]) hx hb dX9_lowestBeside_19 hl (by decide) rfl (fun ls hl => ?_)
      refine lv_iload hx hb dX9_lowestBeside_21 (lv_at hl 0 rfl) ?_
      refine lv_bipush (v := (-9)) hx hb dX9_lowestBeside_23 (by decide) ?_
      refine lv_icmp_eq (tgt := 40) hx hb dX9_lowestBeside_25 (by decide) (fun c_3 => ?_) (fun c_3 => ?_)
      · have hf := ifp c_3 hf
        refine lv_iinc (v := (x3 + 1)) (lv' := [(3, .int (x3 + 1)), (4, .int r2), (0, .ref (a 5)), (1, .int x1), (2, .int x2)]) hx hb dX9_lowestBeside_40 hl (k := 4) rfl rfl (by decide) rfl (fun ls hl => ?_)
        refine lv_goto (tgt := 5) hx hb dX9_lowestBeside_43 (by decide) ?_
        exact ih x2 (x3 + 1) ls (lv_sub hl [2, 3, 4, 0] rfl) hf
      · have hf := ifn c_3 hf
        refine lv_iload_n hx hb dX9_lowestBeside_28 rfl (lv_at hl 3 rfl) ?_
        refine lv_aload_n hx hb dX9_lowestBeside_29 rfl (lv_at hl 1 rfl) ?_
        refine fg_X9_15 C hP dX9_lowestBeside_30 ?_
        refine lv_iload hx hb dX9_lowestBeside_33 (lv_at hl 0 rfl) ?_
        obtain ⟨h_4, hf⟩ := ifs hf
        refine va_iald hx hb hK hP 36 0 (aC_36 g a M) rfl h_4 dX9_lowestBeside_35 ?_
        refine va_mmin hx hb (hml.trans hl.1.symm) hown (ht _ wd_534) (ht _ wd_440) (ht _ wd_14) (ht _ wd_441) (Nat.le_of_ble_eq_true rfl) (Nat.le_of_ble_eq_true rfl) (Nat.le_refl _) (Nat.le_refl _) dX9_lowestBeside_36 ?_
        refine lv_topi (fun z5 ez5 => ?_)
        have hf := nmr ez5 hf
        refine lv_istore_n (lv' := [(2, .int z5), (4, .int r2), (0, .ref (a 5)), (1, .int x1), (3, .int x3)]) hx hb dX9_lowestBeside_39 rfl hl (by decide) rfl (fun ls hl => ?_)
        refine lv_iinc (v := (x3 + 1)) (lv' := [(3, .int (x3 + 1)), (2, .int z5), (4, .int r2), (0, .ref (a 5)), (1, .int x1)]) hx hb dX9_lowestBeside_40 hl (k := 4) rfl rfl (by decide) rfl (fun ls hl => ?_)
        refine lv_goto (tgt := 5) hx hb dX9_lowestBeside_43 (by decide) ?_
        exact ih z5 (x3 + 1) ls (lv_sub hl [3, 4, 1, 0] rfl) hf
set_option maxHeartbeats 4000000 in
set_option maxRecDepth 100000 in
theorem c_X9_lowestBeside (l : Launch) (D : va_G) (g : Nat → ClassId) (a : Nat → Nat) (N : Nat) (M : Mem) (x1 : Int32) (r : Int32) (hf : f_X9_lowestBeside N M x1 = some r) : Met l yX9_lowestBeside (cW yX9_lowestBeside cX9_lowestBeside 5 (some .int)) (rmv 1 22) (Pw D (tyL g) (wC g a M) [.ref (a 5), .int x1]) (RdQ (.int r)) 0 0 nof := by
  unfold f_X9_lowestBeside at hf
  refine met_in (by decide) (Nat.le_of_ble_eq_true rfl) ?_
  intro p e s m args below meth c ls C hP hl
  have C : Cx p s m args meth c cX9_lowestBeside 5 (some .int) RX9 D (tyL g) := C
  obtain ⟨hx, hb, hr, hml, hown, ht, hlocks, hK, hN⟩ := id C
  have hl : lv_has ls 5 [(0, .ref (a 5)), (1, .int x1)] := hl
  refine lv_ldc hx hb hown (ht _ wd_528) dX9_lowestBeside_0 ?_
  refine lv_istore_n (lv' := [(2, .int 1000000), (0, .ref (a 5)), (1, .int x1)]) hx hb dX9_lowestBeside_2 rfl hl (by decide) rfl (fun ls hl => ?_)
  refine lv_iconst (v := 0) hx hb dX9_lowestBeside_3 (by decide) ?_
  refine lv_istore_n (lv' := [(3, .int 0), (2, .int 1000000), (0, .ref (a 5)), (1, .int x1)]) hx hb dX9_lowestBeside_4 rfl hl (by decide) rfl (fun ls hl => ?_)
  exact w_X9_lowestBeside_l5 C N M hP x1 r N 1000000 0 ls (lv_sub hl [2, 3, 1, 0] rfl) hf
set_option maxHeartbeats 4000000 in
set_option maxRecDepth 100000 in
theorem w_X9_settle_l65 {p : Program} {l : Launch} {e : Env} {s : State} {m : MethodId} {args : Array Value} {below : List Frame} {meth : Method} {c : Code} {D : va_G} {g : Nat → ClassId} {a : Nat → Nat} (C : Cx p s m args meth c cX9_settle 5 none RX9 D (tyL g)) (hJ : Inj a 41) (N : Nat) (x2 : Int32) (M' : Mem) (kc : Mem → Int32 → Option (Mem)) (hkc : ∀ (M : Mem), ∀ (y1 : Int32), ∀ (H : Heap) (locs : List Loc), va_P D clL (wC g a M) H → va_S (inA a 41) s.heap H locs → ∀ (ls : Array Slot), lv_has ls 5 [(0, .ref (a 5)), (1, .int y1), (2, .int x2)] → kc M y1 = some M' → W p l e (rmv 2 46) s m args below meth c H locs 0 0 (MQ below (WvQ D (wC g a M') (inA a 41)) args s 0 0 (inA a 41)) (F0 m 138 ls [])) :
    ∀ (n : Nat) (M : Mem) (x1 : Int32) (x3 : Int32), ∀ (H : Heap) (locs : List Loc), va_P D clL (wC g a M) H → va_S (inA a 41) s.heap H locs → ∀ (ls : Array Slot), lv_has ls 5 [(0, .ref (a 5)), (1, .int x1), (2, .int x2), (3, .int x3)] → f_X9_settle_l65 kc N n M x1 x3 = some M' → W p l e (rmv 2 46) s m args below meth c H locs 0 0 (MQ below (WvQ D (wC g a M') (inA a 41)) args s 0 0 (inA a 41)) (F0 m 65 ls []) := by
  obtain ⟨hx, hb, hr, hml, hown, ht, hlocks, hK, hN⟩ := id C
  intro n
  induction n with
  | zero =>
    intro M x1 x3 H locs hP hS ls hl hf
    exact nos hf
  | succ n ih =>
    intro M x1 x3 H locs hP hS ls hl hf
    rw [f_X9_settle_l65] at hf
    refine lv_iload_n hx hb dX9_settle_65 rfl (lv_at hl 3 rfl) ?_
    refine lv_aload_n hx hb dX9_settle_66 rfl (lv_at hl 0 rfl) ?_
    refine fg_X9_18 C hP dX9_settle_67 ?_
    obtain ⟨r5, e_5, hf⟩ := bns hf
    refine kR (rV (rest := [.int x3]) C (c_X3_stones l D g a M r5 e_5) ok_X3_stones wd_523 hP 2 (aC_2 g a M) rfl ⟨rfl, rfl, Nat.le_of_ble_eq_true rfl, Nat.le_of_ble_eq_true rfl⟩ rfl hl.1 rfl (Nat.le_of_ble_eq_true rfl) dX9_settle_70 ⟨Nat.le_of_ble_eq_true rfl, Nat.le_of_ble_eq_true rfl⟩) ?_
    refine lv_icmp_ge (tgt := 138) hx hb dX9_settle_73 (by decide) (fun c_6 => ?_) (fun c_6 => ?_)
    · have hf := ifp c_6 hf
      exact hkc M x1 H locs hP hS ls (lv_sub hl [0, 1, 2] rfl) hf
    · have hf := ifn c_6 hf
      refine lv_aload_n hx hb dX9_settle_76 rfl (lv_at hl 0 rfl) ?_
      refine fg_X9_18 C hP dX9_settle_77 ?_
      refine lv_iload_n hx hb dX9_settle_80 rfl (lv_at hl 3 rfl) ?_
      obtain ⟨r7, e_7, hf⟩ := bns hf
      refine kR (rV (rest := []) C (c_X3_isAtEdge l D g a M x3 r7 e_7) ok_X3_isAtEdge wd_524 hP 2 (aC_2 g a M) rfl ⟨rfl, rfl, Nat.le_of_ble_eq_true rfl, Nat.le_of_ble_eq_true rfl⟩ rfl hl.1 rfl (Nat.le_of_ble_eq_true rfl) dX9_settle_81 ⟨Nat.le_of_ble_eq_true rfl, Nat.le_of_ble_eq_true rfl⟩) ?_
      refine lv_if_ne (tgt := 132) hx hb dX9_settle_84 (by decide) (fun c_8 => ?_) (fun c_8 => ?_)
      · have hf := ifn c_8 hf
        refine lv_iinc (v := (x3 + 1)) (lv' := [(3, .int (x3 + 1)), (0, .ref (a 5)), (1, .int x1), (2, .int x2)]) hx hb dX9_settle_132 hl (k := 3) rfl rfl (by decide) rfl (fun ls hl => ?_)
        refine lv_goto (tgt := 65) hx hb dX9_settle_135 (by decide) ?_
        exact ih M x1 (x3 + 1) H locs hP hS ls (lv_sub hl [1, 2, 3, 0] rfl) hf
      · have hf := ifp c_8 hf
        refine lv_aload_n hx hb dX9_settle_87 rfl (lv_at hl 0 rfl) ?_
        refine fg_X9_9 C hP dX9_settle_88 ?_
        refine lv_iload_n hx hb dX9_settle_91 rfl (lv_at hl 3 rfl) ?_
        obtain ⟨h_9, hf⟩ := ifs hf
        refine va_iald hx hb hK hP 35 0 (aC_35 g a M) rfl h_9 dX9_settle_92 ?_
        refine lv_aload_n hx hb dX9_settle_93 rfl (lv_at hl 0 rfl) ?_
        refine lv_iload_n hx hb dX9_settle_94 rfl (lv_at hl 3 rfl) ?_
        obtain ⟨r10, e_10, hf⟩ := bns hf
        refine kR (rV (rest := [.int (M 35 x3.toNatClampNeg)]) C (c_X9_lowestBeside l D g a N M x3 r10 e_10) ok_X9_lowestBeside wd_529 hP 5 (aC_5 g a M) rfl ⟨rfl, rfl, Nat.le_of_ble_eq_true rfl, Nat.le_of_ble_eq_true rfl⟩ rfl hl.1 rfl (Nat.le_of_ble_eq_true rfl) dX9_settle_95 ⟨Nat.le_of_ble_eq_true rfl, Nat.le_of_ble_eq_true rfl⟩) ?_
        refine va_mmax hx hb (hml.trans hl.1.symm) hown (ht _ wd_535) (ht _ wd_404) (ht _ wd_14) (ht _ wd_405) (Nat.le_of_ble_eq_true rfl) (Nat.le_of_ble_eq_true rfl) (Nat.le_refl _) (Nat.le_refl _) dX9_settle_98 ?_
        refine lv_topi (fun z11 ez11 => ?_)
        have hf := nmr ez11 hf
        refine lv_istore (lv' := [(4, .int z11), (0, .ref (a 5)), (1, .int x1), (2, .int x2), (3, .int x3)]) hx hb dX9_settle_101 hl (by decide) rfl (fun ls hl => ?_)
        refine lv_iload_n hx hb dX9_settle_103 rfl (lv_at hl 2 rfl) ?_
        refine lv_if_ne (tgt := 118) hx hb dX9_settle_104 (by decide) (fun c_12 => ?_) (fun c_12 => ?_)
        · have hf := ifn c_12 hf
          refine lv_iconst (v := 1) hx hb dX9_settle_118 (by decide) ?_
          refine lv_goto (tgt := 123) hx hb dX9_settle_119 (by decide) ?_
          refine lv_istore_n (lv' := [(1, .int 1), (4, .int z11), (0, .ref (a 5)), (2, .int x2), (3, .int x3)]) hx hb dX9_settle_123 rfl hl (by decide) rfl (fun ls hl => ?_)
          refine lv_aload_n hx hb dX9_settle_124 rfl (lv_at hl 2 rfl) ?_
          refine fg_X9_15 C hP dX9_settle_125 ?_
          refine lv_iload_n hx hb dX9_settle_128 rfl (lv_at hl 4 rfl) ?_
          refine lv_iload hx hb dX9_settle_129 (lv_at hl 1 rfl) ?_
          refine ast (wC g a) C hP (wC_D hJ) hS 36 0 (aC_36 g a M) rfl (sC_36 g a M) h_9 dX9_settle_131 (fun H locs hP hS => ?_)
          obtain ⟨M13, eM13, hf⟩ := nms hf
          have hP : va_P D clL (wC g a M13) H := by rw [eM13]; exact hP
          refine lv_iinc (v := (x3 + 1)) (lv' := [(3, .int (x3 + 1)), (1, .int 1), (4, .int z11), (0, .ref (a 5)), (2, .int x2)]) hx hb dX9_settle_132 hl (k := 4) rfl rfl (by decide) rfl (fun ls hl => ?_)
          refine lv_goto (tgt := 65) hx hb dX9_settle_135 (by decide) ?_
          exact ih M13 1 (x3 + 1) H locs hP hS ls (lv_sub hl [3, 1, 4, 0] rfl) hf
        · have hf := ifp c_12 hf
          refine lv_iload hx hb dX9_settle_107 (lv_at hl 0 rfl) ?_
          refine lv_aload_n hx hb dX9_settle_109 rfl (lv_at hl 1 rfl) ?_
          refine fg_X9_15 C hP dX9_settle_110 ?_
          refine lv_iload_n hx hb dX9_settle_113 rfl (lv_at hl 4 rfl) ?_
          refine va_iald hx hb hK hP 36 0 (aC_36 g a M) rfl h_9 dX9_settle_114 ?_
          refine lv_icmp_ge (tgt := 122) hx hb dX9_settle_115 (by decide) (fun c_14 => ?_) (fun c_14 => ?_)
          · have hf := ifp c_14 hf
            refine lv_iconst (v := 0) hx hb dX9_settle_122 (by decide) ?_
            refine lv_istore_n (lv' := [(1, .int 0), (4, .int z11), (0, .ref (a 5)), (2, .int x2), (3, .int x3)]) hx hb dX9_settle_123 rfl hl (by decide) rfl (fun ls hl => ?_)
            refine lv_aload_n hx hb dX9_settle_124 rfl (lv_at hl 2 rfl) ?_
            refine fg_X9_15 C hP dX9_settle_125 ?_
            refine lv_iload_n hx hb dX9_settle_128 rfl (lv_at hl 4 rfl) ?_
            refine lv_iload hx hb dX9_settle_129 (lv_at hl 1 rfl) ?_
            refine ast (wC g a) C hP (wC_D hJ) hS 36 0 (aC_36 g a M) rfl (sC_36 g a M) h_9 dX9_settle_131 (fun H locs hP hS => ?_)
            obtain ⟨M15, eM15, hf⟩ := nms hf
            have hP : va_P D clL (wC g a M15) H := by rw [eM15]; exact hP
            refine lv_iinc (v := (x3 + 1)) (lv' := [(3, .int (x3 + 1)), (1, .int 0), (4, .int z11), (0, .ref (a 5)), (2, .int x2)]) hx hb dX9_settle_132 hl (k := 4) rfl rfl (by decide) rfl (fun ls hl => ?_)
            refine lv_goto (tgt := 65) hx hb dX9_settle_135 (by decide) ?_
            exact ih M15 0 (x3 + 1) H locs hP hS ls (lv_sub hl [3, 1, 4, 0] rfl) hf
          · have hf := ifn c_14 hf
            refine lv_iconst (v := 1) hx hb dX9_settle_118 (by decide) ?_
            refine lv_goto (tgt := 123) hx hb dX9_settle_119 (by decide) ?_
            refine lv_istore_n (lv' := [(1, .int 1), (4, .int z11), (0, .ref (a 5)), (2, .int x2), (3, .int x3)]) hx hb dX9_settle_123 rfl hl (by decide) rfl (fun ls hl => ?_)
            refine lv_aload_n hx hb dX9_settle_124 rfl (lv_at hl 2 rfl) ?_
            refine fg_X9_15 C hP dX9_settle_125 ?_
            refine lv_iload_n hx hb dX9_settle_128 rfl (lv_at hl 4 rfl) ?_
            refine lv_iload hx hb dX9_settle_129 (lv_at hl 1 rfl) ?_
            refine ast (wC g a) C hP (wC_D hJ) hS 36 0 (aC_36 g a M) rfl (sC_36 g a M) h_9 dX9_settle_131 (fun H locs hP hS => ?_)
            obtain ⟨M16, eM16, hf⟩ := nms hf
            have hP : va_P D clL (wC g a M16) H := by rw [eM16]; exact hP
            refine lv_iinc (v := (x3 + 1)) (lv' := [(3, .int (x3 + 1)), (1, .int 1), (4, .int z11), (0, .ref (a 5)), (2, .int x2)]) hx hb dX9_settle_132 hl (k := 4) rfl rfl (by decide) rfl (fun ls hl => ?_)
            refine lv_goto (tgt := 65) hx hb dX9_settle_135 (by decide) ?_
            exact ih M16 1 (x3 + 1) H locs hP hS ls (lv_sub hl [3, 1, 4, 0] rfl) hf
set_option maxHeartbeats 4000000 in
set_option maxRecDepth 100000 in
theorem w_X9_settle_l51 {p : Program} {l : Launch} {e : Env} {s : State} {m : MethodId} {args : Array Value} {below : List Frame} {meth : Method} {c : Code} {D : va_G} {g : Nat → ClassId} {a : Nat → Nat} (C : Cx p s m args meth c cX9_settle 5 none RX9 D (tyL g)) (hJ : Inj a 41) (N : Nat) (M' : Mem) :
    ∀ (n : Nat) (M : Mem) (x1 : Int32) (x2 : Int32), ∀ (H : Heap) (locs : List Loc), va_P D clL (wC g a M) H → va_S (inA a 41) s.heap H locs → ∀ (ls : Array Slot), lv_has ls 5 [(0, .ref (a 5)), (1, .int x1), (2, .int x2)] → f_X9_settle_l51 N n M x1 x2 = some M' → W p l e (rmv 2 46) s m args below meth c H locs 0 0 (MQ below (WvQ D (wC g a M') (inA a 41)) args s 0 0 (inA a 41)) (F0 m 51 ls []) := by
  obtain ⟨hx, hb, hr, hml, hown, ht, hlocks, hK, hN⟩ := id C
  intro n
  induction n with
  | zero =>
    intro M x1 x2 H locs hP hS ls hl hf
    exact nos hf
  | succ n ih =>
    intro M x1 x2 H locs hP hS ls hl hf
    rw [f_X9_settle_l51] at hf
    refine lv_iload_n hx hb dX9_settle_51 rfl (lv_at hl 1 rfl) ?_
    refine lv_if_eq (tgt := 144) hx hb dX9_settle_52 (by decide) (fun c_3 => ?_) (fun c_3 => ?_)
    · have hf := ifp c_3 hf
      obtain rfl := Option.some.inj hf
      exact retWv C hP hS dX9_settle_144
    · have hf := ifn c_3 hf
      refine lv_iload_n hx hb dX9_settle_55 rfl (lv_at hl 2 rfl) ?_
      refine lv_bipush (v := 30) hx hb dX9_settle_56 (by decide) ?_
      refine lv_icmp_ge (tgt := 144) hx hb dX9_settle_58 (by decide) (fun c_4 => ?_) (fun c_4 => ?_)
      · have hf := ifp c_4 hf
        obtain rfl := Option.some.inj hf
        exact retWv C hP hS dX9_settle_144
      · have hf := ifn c_4 hf
        refine lv_iconst (v := 0) hx hb dX9_settle_61 (by decide) ?_
        refine lv_istore_n (lv' := [(1, .int 0), (0, .ref (a 5)), (2, .int x2)]) hx hb dX9_settle_62 rfl hl (by decide) rfl (fun ls hl => ?_)
        refine lv_iconst (v := 0) hx hb dX9_settle_63 (by decide) ?_
        refine lv_istore_n (lv' := [(3, .int 0), (1, .int 0), (0, .ref (a 5)), (2, .int x2)]) hx hb dX9_settle_64 rfl hl (by decide) rfl (fun ls hl => ?_)
        refine w_X9_settle_l65 C hJ N x2 M' _ (fun M17 y1_17 H locs hP hS ls hl hf => ?_) N M 0 0 H locs hP hS ls (lv_sub hl [2, 1, 3, 0] rfl) hf
        refine lv_iinc (v := (x2 + 1)) (lv' := [(2, .int (x2 + 1)), (0, .ref (a 5)), (1, .int y1_17)]) hx hb dX9_settle_138 hl (k := 2) rfl rfl (by decide) rfl (fun ls hl => ?_)
        refine lv_goto (tgt := 51) hx hb dX9_settle_141 (by decide) ?_
        exact ih M17 y1_17 (x2 + 1) H locs hP hS ls (lv_sub hl [1, 2, 0] rfl) hf
set_option maxHeartbeats 4000000 in
set_option maxRecDepth 100000 in
theorem w_X9_settle_l2 {p : Program} {l : Launch} {e : Env} {s : State} {m : MethodId} {args : Array Value} {below : List Frame} {meth : Method} {c : Code} {D : va_G} {g : Nat → ClassId} {a : Nat → Nat} (C : Cx p s m args meth c cX9_settle 5 none RX9 D (tyL g)) (hJ : Inj a 41) (N : Nat) (M' : Mem) :
    ∀ (n : Nat) (M : Mem) (x1 : Int32), ∀ (H : Heap) (locs : List Loc), va_P D clL (wC g a M) H → va_S (inA a 41) s.heap H locs → ∀ (ls : Array Slot), lv_has ls 5 [(0, .ref (a 5)), (1, .int x1)] → f_X9_settle_l2 N n M x1 = some M' → W p l e (rmv 2 46) s m args below meth c H locs 0 0 (MQ below (WvQ D (wC g a M') (inA a 41)) args s 0 0 (inA a 41)) (F0 m 2 ls []) := by
  obtain ⟨hx, hb, hr, hml, hown, ht, hlocks, hK, hN⟩ := id C
  intro n
  induction n with
  | zero =>
    intro M x1 H locs hP hS ls hl hf
    exact nos hf
  | succ n ih =>
    intro M x1 H locs hP hS ls hl hf
    rw [f_X9_settle_l2] at hf
    refine lv_iload_n hx hb dX9_settle_2 rfl (lv_at hl 1 rfl) ?_
    refine lv_aload_n hx hb dX9_settle_3 rfl (lv_at hl 0 rfl) ?_
    refine fg_X9_18 C hP dX9_settle_4 ?_
    obtain ⟨r1, e_1, hf⟩ := bns hf
    refine kR (rV (rest := [.int x1]) C (c_X3_stones l D g a M r1 e_1) ok_X3_stones wd_523 hP 2 (aC_2 g a M) rfl ⟨rfl, rfl, Nat.le_of_ble_eq_true rfl, Nat.le_of_ble_eq_true rfl⟩ rfl hl.1 rfl (Nat.le_of_ble_eq_true rfl) dX9_settle_7 ⟨Nat.le_of_ble_eq_true rfl, Nat.le_of_ble_eq_true rfl⟩) ?_
    refine lv_icmp_ge (tgt := 47) hx hb dX9_settle_10 (by decide) (fun c_2 => ?_) (fun c_2 => ?_)
    · have hf := ifp c_2 hf
      refine lv_iconst (v := 1) hx hb dX9_settle_47 (by decide) ?_
      refine lv_istore_n (lv' := [(1, .int 1), (0, .ref (a 5))]) hx hb dX9_settle_48 rfl hl (by decide) rfl (fun ls hl => ?_)
      refine lv_iconst (v := 0) hx hb dX9_settle_49 (by decide) ?_
      refine lv_istore_n (lv' := [(2, .int 0), (1, .int 1), (0, .ref (a 5))]) hx hb dX9_settle_50 rfl hl (by decide) rfl (fun ls hl => ?_)
      exact w_X9_settle_l51 C hJ N M' N M 1 0 H locs hP hS ls (lv_sub hl [2, 1, 0] rfl) hf
    · have hf := ifn c_2 hf
      refine lv_aload_n hx hb dX9_settle_13 rfl (lv_at hl 0 rfl) ?_
      refine fg_X9_15 C hP dX9_settle_14 ?_
      refine lv_iload_n hx hb dX9_settle_17 rfl (lv_at hl 1 rfl) ?_
      refine lv_aload_n hx hb dX9_settle_18 rfl (lv_at hl 0 rfl) ?_
      refine fg_X9_18 C hP dX9_settle_19 ?_
      refine lv_iload_n hx hb dX9_settle_22 rfl (lv_at hl 1 rfl) ?_
      obtain ⟨r18, e_18, hf⟩ := bns hf
      refine kR (rV (rest := [.int x1, .ref (a 36)]) C (c_X3_isAtEdge l D g a M x1 r18 e_18) ok_X3_isAtEdge wd_524 hP 2 (aC_2 g a M) rfl ⟨rfl, rfl, Nat.le_of_ble_eq_true rfl, Nat.le_of_ble_eq_true rfl⟩ rfl hl.1 rfl (Nat.le_of_ble_eq_true rfl) dX9_settle_23 ⟨Nat.le_of_ble_eq_true rfl, Nat.le_of_ble_eq_true rfl⟩) ?_
      refine lv_if_eq (tgt := 38) hx hb dX9_settle_26 (by decide) (fun c_19 => ?_) (fun c_19 => ?_)
      · have hf := ifp c_19 hf
        refine lv_ldc hx hb hown (ht _ wd_528) dX9_settle_38 ?_
        obtain ⟨h_20, hf⟩ := ifs hf
        refine ast (wC g a) C hP (wC_D hJ) hS 36 0 (aC_36 g a M) rfl (sC_36 g a M) h_20 dX9_settle_40 (fun H locs hP hS => ?_)
        obtain ⟨M21, eM21, hf⟩ := nms hf
        have hP : va_P D clL (wC g a M21) H := by rw [eM21]; exact hP
        refine lv_iinc (v := (x1 + 1)) (lv' := [(1, .int (x1 + 1)), (0, .ref (a 5))]) hx hb dX9_settle_41 hl (k := 1) rfl rfl (by decide) rfl (fun ls hl => ?_)
        refine lv_goto (tgt := 2) hx hb dX9_settle_44 (by decide) ?_
        exact ih M21 (x1 + 1) H locs hP hS ls (lv_sub hl [1, 0] rfl) hf
      · have hf := ifn c_19 hf
        refine lv_aload_n hx hb dX9_settle_29 rfl (lv_at hl 0 rfl) ?_
        refine fg_X9_9 C hP dX9_settle_30 ?_
        refine lv_iload_n hx hb dX9_settle_33 rfl (lv_at hl 1 rfl) ?_
        obtain ⟨h_22, hf⟩ := ifs hf
        refine va_iald hx hb hK hP 35 0 (aC_35 g a M) rfl h_22 dX9_settle_34 ?_
        refine lv_goto (tgt := 40) hx hb dX9_settle_35 (by decide) ?_
        refine ast (wC g a) C hP (wC_D hJ) hS 36 0 (aC_36 g a M) rfl (sC_36 g a M) h_22 dX9_settle_40 (fun H locs hP hS => ?_)
        obtain ⟨M23, eM23, hf⟩ := nms hf
        have hP : va_P D clL (wC g a M23) H := by rw [eM23]; exact hP
        refine lv_iinc (v := (x1 + 1)) (lv' := [(1, .int (x1 + 1)), (0, .ref (a 5))]) hx hb dX9_settle_41 hl (k := 1) rfl rfl (by decide) rfl (fun ls hl => ?_)
        refine lv_goto (tgt := 2) hx hb dX9_settle_44 (by decide) ?_
        exact ih M23 (x1 + 1) H locs hP hS ls (lv_sub hl [1, 0] rfl) hf
set_option maxHeartbeats 4000000 in
set_option maxRecDepth 100000 in
theorem c_X9_settle (l : Launch) (D : va_G) (g : Nat → ClassId) (a : Nat → Nat) (hJ : Inj a 41) (N : Nat) (M : Mem) (M' : Mem) (hf : f_X9_settle N M = some M') : Met l yX9_settle (cW yX9_settle cX9_settle 5 none) (rmv 2 46) (Pw D (tyL g) (wC g a M) [.ref (a 5)]) (WvQ D (wC g a M') (inA a 41)) 0 0 (inA a 41) := by
  unfold f_X9_settle at hf
  refine met_inW (A := (inA a 41)) (by decide) (Nat.le_of_ble_eq_true rfl) ?_
  intro p e s m args below meth c ls H locs C hP hS hl
  have C : Cx p s m args meth c cX9_settle 5 none RX9 D (tyL g) := C
  obtain ⟨hx, hb, hr, hml, hown, ht, hlocks, hK, hN⟩ := id C
  have hl : lv_has ls 5 [(0, .ref (a 5))] := hl
  refine lv_iconst (v := 0) hx hb dX9_settle_0 (by decide) ?_
  refine lv_istore_n (lv' := [(1, .int 0), (0, .ref (a 5))]) hx hb dX9_settle_1 rfl hl (by decide) rfl (fun ls hl => ?_)
  exact w_X9_settle_l2 C hJ N M' N M 0 H locs hP hS ls (lv_sub hl [1, 0] rfl) hf
set_option maxHeartbeats 4000000 in
set_option maxRecDepth 100000 in
theorem c_X9_depthAt (l : Launch) (D : va_G) (g : Nat → ClassId) (a : Nat → Nat) (M : Mem) (x1 : Int32) (r : Int32) (hf : f_X9_depthAt M x1 = some r) : Met l yX9_depthAt (cW yX9_depthAt cX9_depthAt 2 (some .int)) (rmv 0 0) (Pw D (tyL g) (wC g a M) [.ref (a 5), .int x1]) (RdQ (.int r)) 0 0 nof := by
  unfold f_X9_depthAt at hf
  refine met_in (by decide) (Nat.le_of_ble_eq_true rfl) ?_
  intro p e s m args below meth c ls C hP hl
  have C : Cx p s m args meth c cX9_depthAt 2 (some .int) RX9 D (tyL g) := C
  obtain ⟨hx, hb, hr, hml, hown, ht, hlocks, hK, hN⟩ := id C
  have hl : lv_has ls 2 [(0, .ref (a 5)), (1, .int x1)] := hl
  refine lv_aload_n hx hb dX9_depthAt_0 rfl (lv_at hl 0 rfl) ?_
  refine fg_X9_15 C hP dX9_depthAt_1 ?_
  refine lv_iload_n hx hb dX9_depthAt_4 rfl (lv_at hl 1 rfl) ?_
  obtain ⟨h_1, hf⟩ := ifs hf
  refine va_iald hx hb hK hP 36 0 (aC_36 g a M) rfl h_1 dX9_depthAt_5 ?_
  refine lv_aload_n hx hb dX9_depthAt_6 rfl (lv_at hl 0 rfl) ?_
  refine fg_X9_9 C hP dX9_depthAt_7 ?_
  refine lv_iload_n hx hb dX9_depthAt_10 rfl (lv_at hl 1 rfl) ?_
  refine va_iald hx hb hK hP 35 0 (aC_35 g a M) rfl h_1 dX9_depthAt_11 ?_
  refine lv_isub hx hb dX9_depthAt_12 ?_
  obtain rfl := Option.some.inj hf
  exact retR C dX9_depthAt_13
set_option maxHeartbeats 4000000 in
set_option maxRecDepth 100000 in
theorem w_X9_allDepths_l8 {p : Program} {l : Launch} {e : Env} {s : State} {m : MethodId} {args : Array Value} {below : List Frame} {meth : Method} {c : Code} {D : va_G} {g : Nat → ClassId} {a : Nat → Nat} (C : Cx p s m args meth c cX9_allDepths 3 (some .int) RX9 D (tyL g)) (hJ : Inj a 41) (N : Nat) (M : Mem) (H : Heap) (locs : List Loc) (hP : va_P D clL (wC g a M) H) (hS : va_S (inA a 41) s.heap H locs) (r : Int32) (M' : Mem) :
    ∀ (n : Nat) (x1 : Int32) (x2 : Int32), ∀ (ls : Array Slot), lv_has ls 3 [(0, .ref (a 5)), (1, .int x1), (2, .int x2)] → f_X9_allDepths_l8 N M n x1 x2 = some (r, M') → W p l e (rmv 3 70) s m args below meth c H locs 0 0 (MQ below (WrQ D (wC g a M') (inA a 41) (.int r)) args s 0 0 (inA a 41)) (F0 m 8 ls []) := by
  obtain ⟨hx, hb, hr, hml, hown, ht, hlocks, hK, hN⟩ := id C
  intro n
  induction n with
  | zero =>
    intro x1 x2 ls hl hf
    exact nos hf
  | succ n ih =>
    intro x1 x2 ls hl hf
    rw [f_X9_allDepths_l8] at hf
    refine lv_iload_n hx hb dX9_allDepths_8 rfl (lv_at hl 2 rfl) ?_
    refine lv_aload_n hx hb dX9_allDepths_9 rfl (lv_at hl 0 rfl) ?_
    refine fg_X9_18 C hP dX9_allDepths_10 ?_
    obtain ⟨r2, e_2, hf⟩ := bns hf
    refine kR (rV (rest := [.int x2]) C (c_X3_stones l D g a M r2 e_2) ok_X3_stones wd_523 hP 2 (aC_2 g a M) rfl ⟨rfl, rfl, Nat.le_of_ble_eq_true rfl, Nat.le_of_ble_eq_true rfl⟩ rfl hl.1 rfl (Nat.le_of_ble_eq_true rfl) dX9_allDepths_13 ⟨Nat.le_of_ble_eq_true rfl, Nat.le_of_ble_eq_true rfl⟩) ?_
    refine lv_icmp_ge (tgt := 33) hx hb dX9_allDepths_16 (by decide) (fun c_3 => ?_) (fun c_3 => ?_)
    · have hf := ifp c_3 hf
      refine lv_iload_n hx hb dX9_allDepths_33 rfl (lv_at hl 1 rfl) ?_
      obtain ⟨rfl, rfl⟩ := Prod.mk.inj (Option.some.inj hf)
      exact retW C hP hS dX9_allDepths_34
    · have hf := ifn c_3 hf
      refine lv_iload_n hx hb dX9_allDepths_19 rfl (lv_at hl 1 rfl) ?_
      refine lv_aload_n hx hb dX9_allDepths_20 rfl (lv_at hl 0 rfl) ?_
      refine lv_iload_n hx hb dX9_allDepths_21 rfl (lv_at hl 2 rfl) ?_
      obtain ⟨r4, e_4, hf⟩ := bns hf
      refine kR (rV (rest := [.int x1]) C (c_X9_depthAt l D g a M x2 r4 e_4) ok_X9_depthAt wd_549 hP 5 (aC_5 g a M) rfl ⟨rfl, rfl, Nat.le_of_ble_eq_true rfl, Nat.le_of_ble_eq_true rfl⟩ rfl hl.1 rfl (Nat.le_of_ble_eq_true rfl) dX9_allDepths_22 ⟨Nat.le_of_ble_eq_true rfl, Nat.le_of_ble_eq_true rfl⟩) ?_
      refine lv_iadd hx hb dX9_allDepths_25 ?_
      refine lv_topi (fun z5 ez5 => ?_)
      have hf := nmr ez5 hf
      refine lv_istore_n (lv' := [(1, .int z5), (0, .ref (a 5)), (2, .int x2)]) hx hb dX9_allDepths_26 rfl hl (by decide) rfl (fun ls hl => ?_)
      refine lv_iinc (v := (x2 + 1)) (lv' := [(2, .int (x2 + 1)), (1, .int z5), (0, .ref (a 5))]) hx hb dX9_allDepths_27 hl (k := 2) rfl rfl (by decide) rfl (fun ls hl => ?_)
      refine lv_goto (tgt := 8) hx hb dX9_allDepths_30 (by decide) ?_
      exact ih z5 (x2 + 1) ls (lv_sub hl [2, 1, 0] rfl) hf
set_option maxHeartbeats 4000000 in
set_option maxRecDepth 100000 in
theorem c_X9_allDepths (l : Launch) (D : va_G) (g : Nat → ClassId) (a : Nat → Nat) (hJ : Inj a 41) (N : Nat) (M : Mem) (r : Int32) (M' : Mem) (hf : f_X9_allDepths N M = some (r, M')) : Met l yX9_allDepths (cW yX9_allDepths cX9_allDepths 3 (some .int)) (rmv 3 70) (Pw D (tyL g) (wC g a M) [.ref (a 5)]) (WrQ D (wC g a M') (inA a 41) (.int r)) 0 0 (inA a 41) := by
  unfold f_X9_allDepths at hf
  refine met_inW (A := (inA a 41)) (by decide) (Nat.le_of_ble_eq_true rfl) ?_
  intro p e s m args below meth c ls H locs C hP hS hl
  have C : Cx p s m args meth c cX9_allDepths 3 (some .int) RX9 D (tyL g) := C
  obtain ⟨hx, hb, hr, hml, hown, ht, hlocks, hK, hN⟩ := id C
  have hl : lv_has ls 3 [(0, .ref (a 5))] := hl
  refine lv_aload_n hx hb dX9_allDepths_0 rfl (lv_at hl 0 rfl) ?_
  obtain ⟨M1, e_1, hf⟩ := bns hf
  refine kWv (rV (rest := []) C (c_X9_settle l D g a hJ N M M1 e_1) ok_X9_settle wd_548 hP 5 (aC_5 g a M) rfl ⟨rfl, rfl, Nat.le_of_ble_eq_true rfl, Nat.le_of_ble_eq_true rfl⟩ rfl hl.1 rfl (Nat.le_of_ble_eq_true rfl) dX9_allDepths_1 ⟨Nat.le_of_ble_eq_true rfl, Nat.le_of_ble_eq_true rfl⟩) hS (fun H locs hP hS => ?_)
  refine lv_iconst (v := 0) hx hb dX9_allDepths_4 (by decide) ?_
  refine lv_istore_n (lv' := [(1, .int 0), (0, .ref (a 5))]) hx hb dX9_allDepths_5 rfl hl (by decide) rfl (fun ls hl => ?_)
  refine lv_iconst (v := 0) hx hb dX9_allDepths_6 (by decide) ?_
  refine lv_istore_n (lv' := [(2, .int 0), (1, .int 0), (0, .ref (a 5))]) hx hb dX9_allDepths_7 rfl hl (by decide) rfl (fun ls hl => ?_)
  exact w_X9_allDepths_l8 C hJ N M1 H locs hP hS r M' N 0 0 ls (lv_sub hl [2, 1, 0] rfl) hf
set_option maxHeartbeats 4000000 in
set_option maxRecDepth 100000 in
theorem c_X9_poolIfLifted (l : Launch) (D : va_G) (g : Nat → ClassId) (a : Nat → Nat) (hJ : Inj a 41) (N : Nat) (M : Mem) (x1 : Int32) (x2 : Int32) (r : Int32) (M' : Mem) (hf : f_X9_poolIfLifted N M x1 x2 = some (r, M')) : Met l yX9_poolIfLifted (cW yX9_poolIfLifted cX9_poolIfLifted 4 (some .int)) (rmv 4 92) (Pw D (tyL g) (wC g a M) [.ref (a 5), .int x1, .int x2]) (WrQ D (wC g a M') (inA a 41) (.int r)) 0 0 (inA a 41) := by
  unfold f_X9_poolIfLifted at hf
  refine met_inW (A := (inA a 41)) (by decide) (Nat.le_of_ble_eq_true rfl) ?_
  intro p e s m args below meth c ls H locs C hP hS hl
  have C : Cx p s m args meth c cX9_poolIfLifted 4 (some .int) RX9 D (tyL g) := C
  obtain ⟨hx, hb, hr, hml, hown, ht, hlocks, hK, hN⟩ := id C
  have hl : lv_has ls 4 [(0, .ref (a 5)), (1, .int x1), (2, .int x2)] := hl
  refine lv_aload_n hx hb dX9_poolIfLifted_0 rfl (lv_at hl 0 rfl) ?_
  refine fg_X9_9 C hP dX9_poolIfLifted_1 ?_
  refine lv_iload_n hx hb dX9_poolIfLifted_4 rfl (lv_at hl 1 rfl) ?_
  refine lv_dup2_11 hx hb dX9_poolIfLifted_5 rfl rfl ?_
  obtain ⟨h_1, hf⟩ := ifs hf
  refine va_iald hx hb hK hP 35 0 (aC_35 g a M) rfl h_1 dX9_poolIfLifted_6 ?_
  refine lv_iload_n hx hb dX9_poolIfLifted_7 rfl (lv_at hl 2 rfl) ?_
  refine lv_iadd hx hb dX9_poolIfLifted_8 ?_
  refine ast (wC g a) C hP (wC_D hJ) hS 35 0 (aC_35 g a M) rfl (sC_35 g a M) h_1 dX9_poolIfLifted_9 (fun H locs hP hS => ?_)
  obtain ⟨M2, eM2, hf⟩ := nms hf
  have hP : va_P D clL (wC g a M2) H := by rw [eM2]; exact hP
  refine lv_aload_n hx hb dX9_poolIfLifted_10 rfl (lv_at hl 0 rfl) ?_
  obtain ⟨q3, e_3, hf⟩ := bns hf
  refine kW (rV (rest := []) C (c_X9_allDepths l D g a hJ N M2 q3.1 q3.2 e_3) ok_X9_allDepths wd_562 hP 5 (aC_5 g a M2) rfl ⟨rfl, rfl, Nat.le_of_ble_eq_true rfl, Nat.le_of_ble_eq_true rfl⟩ rfl hl.1 rfl (Nat.le_of_ble_eq_true rfl) dX9_poolIfLifted_11 ⟨Nat.le_of_ble_eq_true rfl, Nat.le_of_ble_eq_true rfl⟩) hS (fun H locs hP hS => ?_)
  refine lv_istore_n (lv' := [(3, .int q3.1), (0, .ref (a 5)), (1, .int x1), (2, .int x2)]) hx hb dX9_poolIfLifted_14 rfl hl (by decide) rfl (fun ls hl => ?_)
  refine lv_aload_n hx hb dX9_poolIfLifted_15 rfl (lv_at hl 1 rfl) ?_
  refine fg_X9_9 C hP dX9_poolIfLifted_16 ?_
  refine lv_iload_n hx hb dX9_poolIfLifted_19 rfl (lv_at hl 2 rfl) ?_
  refine lv_dup2_11 hx hb dX9_poolIfLifted_20 rfl rfl ?_
  refine va_iald hx hb hK hP 35 0 (aC_35 g a q3.2) rfl h_1 dX9_poolIfLifted_21 ?_
  refine lv_iload_n hx hb dX9_poolIfLifted_22 rfl (lv_at hl 3 rfl) ?_
  refine lv_isub hx hb dX9_poolIfLifted_23 ?_
  refine ast (wC g a) C hP (wC_D hJ) hS 35 0 (aC_35 g a q3.2) rfl (sC_35 g a q3.2) h_1 dX9_poolIfLifted_24 (fun H locs hP hS => ?_)
  obtain ⟨M4, eM4, hf⟩ := nms hf
  have hP : va_P D clL (wC g a M4) H := by rw [eM4]; exact hP
  refine lv_iload_n hx hb dX9_poolIfLifted_25 rfl (lv_at hl 0 rfl) ?_
  obtain ⟨rfl, rfl⟩ := Prod.mk.inj (Option.some.inj hf)
  exact retW C hP hS dX9_poolIfLifted_26
set_option maxHeartbeats 4000000 in
set_option maxRecDepth 100000 in
theorem w_X9_bestLifted_l12 {p : Program} {l : Launch} {e : Env} {s : State} {m : MethodId} {args : Array Value} {below : List Frame} {meth : Method} {c : Code} {D : va_G} {g : Nat → ClassId} {a : Nat → Nat} (C : Cx p s m args meth c cX9_bestLifted 6 (some .int) RX9 D (tyL g)) (hJ : Inj a 41) (N : Nat) (x1 : Int32) (r : Int32) (M' : Mem) :
    ∀ (n : Nat) (M : Mem) (x2 : Int32) (x3 : Int32) (x4 : Int32), ∀ (H : Heap) (locs : List Loc), va_P D clL (wC g a M) H → va_S (inA a 41) s.heap H locs → ∀ (ls : Array Slot), lv_has ls 6 [(0, .ref (a 5)), (1, .int x1), (2, .int x2), (3, .int x3), (4, .int x4)] → f_X9_bestLifted_l12 N x1 n M x2 x3 x4 = some (r, M') → W p l e (rmv 5 115) s m args below meth c H locs 0 0 (MQ below (WrQ D (wC g a M') (inA a 41) (.int r)) args s 0 0 (inA a 41)) (F0 m 12 ls []) := by
  obtain ⟨hx, hb, hr, hml, hown, ht, hlocks, hK, hN⟩ := id C
  intro n
  induction n with
  | zero =>
    intro M x2 x3 x4 H locs hP hS ls hl hf
    exact nos hf
  | succ n ih =>
    intro M x2 x3 x4 H locs hP hS ls hl hf
    rw [f_X9_bestLifted_l12] at hf
    refine lv_iload hx hb dX9_bestLifted_12 (lv_at hl 4 rfl) ?_
    refine lv_aload_n hx hb dX9_bestLifted_14 rfl (lv_at hl 0 rfl) ?_
    refine fg_X9_18 C hP dX9_bestLifted_15 ?_
    obtain ⟨r2, e_2, hf⟩ := bns hf
    refine kR (rV (rest := [.int x4]) C (c_X3_stones l D g a M r2 e_2) ok_X3_stones wd_523 hP 2 (aC_2 g a M) rfl ⟨rfl, rfl, Nat.le_of_ble_eq_true rfl, Nat.le_of_ble_eq_true rfl⟩ rfl hl.1 rfl (Nat.le_of_ble_eq_true rfl) dX9_bestLifted_18 ⟨Nat.le_of_ble_eq_true rfl, Nat.le_of_ble_eq_true rfl⟩) ?_
    refine lv_icmp_ge (tgt := 51) hx hb dX9_bestLifted_21 (by decide) (fun c_3 => ?_) (fun c_3 => ?_)
    · have hf := ifp c_3 hf
      refine lv_iload_n hx hb dX9_bestLifted_51 rfl (lv_at hl 2 rfl) ?_
      obtain ⟨rfl, rfl⟩ := Prod.mk.inj (Option.some.inj hf)
      exact retW C hP hS dX9_bestLifted_52
    · have hf := ifn c_3 hf
      refine lv_aload_n hx hb dX9_bestLifted_24 rfl (lv_at hl 0 rfl) ?_
      refine lv_iload hx hb dX9_bestLifted_25 (lv_at hl 4 rfl) ?_
      refine lv_iload_n hx hb dX9_bestLifted_27 rfl (lv_at hl 1 rfl) ?_
      obtain ⟨q4, e_4, hf⟩ := bns hf
      refine kW (rV (rest := []) C (c_X9_poolIfLifted l D g a hJ N M x4 x1 q4.1 q4.2 e_4) ok_X9_poolIfLifted wd_558 hP 5 (aC_5 g a M) rfl ⟨rfl, rfl, Nat.le_of_ble_eq_true rfl, Nat.le_of_ble_eq_true rfl⟩ rfl hl.1 rfl (Nat.le_of_ble_eq_true rfl) dX9_bestLifted_28 ⟨Nat.le_of_ble_eq_true rfl, Nat.le_of_ble_eq_true rfl⟩) hS (fun H locs hP hS => ?_)
      refine lv_istore (lv' := [(5, .int q4.1), (0, .ref (a 5)), (1, .int x1), (2, .int x2), (3, .int x3), (4, .int x4)]) hx hb dX9_bestLifted_31 hl (by decide) rfl (fun ls hl => ?_)
      refine lv_iload hx hb dX9_bestLifted_33 (lv_at hl 0 rfl) ?_
      refine lv_iload_n hx hb dX9_bestLifted_35 rfl (lv_at hl 4 rfl) ?_
      refine lv_icmp_ge (tgt := 45) hx hb dX9_bestLifted_36 (by decide) (fun c_5 => ?_) (fun c_5 => ?_)
      · have hf := ifp c_5 hf
        refine lv_iinc (v := (x4 + 1)) (lv' := [(4, .int (x4 + 1)), (5, .int q4.1), (0, .ref (a 5)), (1, .int x1), (2, .int x2), (3, .int x3)]) hx hb dX9_bestLifted_45 hl (k := 5) rfl rfl (by decide) rfl (fun ls hl => ?_)
        refine lv_goto (tgt := 12) hx hb dX9_bestLifted_48 (by decide) ?_
        exact ih q4.2 x2 x3 (x4 + 1) H locs hP hS ls (lv_sub hl [2, 3, 4, 5, 0] rfl) hf
      · have hf := ifn c_5 hf
        refine lv_iload hx hb dX9_bestLifted_39 (lv_at hl 5 rfl) ?_
        refine lv_istore_n (lv' := [(2, .int x4), (5, .int q4.1), (0, .ref (a 5)), (1, .int x1), (3, .int x3), (4, .int x4)]) hx hb dX9_bestLifted_41 rfl hl (by decide) rfl (fun ls hl => ?_)
        refine lv_iload hx hb dX9_bestLifted_42 (lv_at hl 1 rfl) ?_
        refine lv_istore_n (lv' := [(3, .int q4.1), (2, .int x4), (5, .int q4.1), (0, .ref (a 5)), (1, .int x1), (4, .int x4)]) hx hb dX9_bestLifted_44 rfl hl (by decide) rfl (fun ls hl => ?_)
        refine lv_iinc (v := (x4 + 1)) (lv' := [(4, .int (x4 + 1)), (3, .int q4.1), (2, .int x4), (5, .int q4.1), (0, .ref (a 5)), (1, .int x1)]) hx hb dX9_bestLifted_45 hl (k := 5) rfl rfl (by decide) rfl (fun ls hl => ?_)
        refine lv_goto (tgt := 12) hx hb dX9_bestLifted_48 (by decide) ?_
        exact ih q4.2 x4 q4.1 (x4 + 1) H locs hP hS ls (lv_sub hl [4, 5, 2, 1, 0] rfl) hf
set_option maxHeartbeats 4000000 in
set_option maxRecDepth 100000 in
theorem c_X9_bestLifted (l : Launch) (D : va_G) (g : Nat → ClassId) (a : Nat → Nat) (hJ : Inj a 41) (N : Nat) (M : Mem) (x1 : Int32) (r : Int32) (M' : Mem) (hf : f_X9_bestLifted N M x1 = some (r, M')) : Met l yX9_bestLifted (cW yX9_bestLifted cX9_bestLifted 6 (some .int)) (rmv 5 115) (Pw D (tyL g) (wC g a M) [.ref (a 5), .int x1]) (WrQ D (wC g a M') (inA a 41) (.int r)) 0 0 (inA a 41) := by
  unfold f_X9_bestLifted at hf
  refine met_inW (A := (inA a 41)) (by decide) (Nat.le_of_ble_eq_true rfl) ?_
  intro p e s m args below meth c ls H locs C hP hS hl
  have C : Cx p s m args meth c cX9_bestLifted 6 (some .int) RX9 D (tyL g) := C
  obtain ⟨hx, hb, hr, hml, hown, ht, hlocks, hK, hN⟩ := id C
  have hl : lv_has ls 6 [(0, .ref (a 5)), (1, .int x1)] := hl
  refine lv_iconst (v := 0) hx hb dX9_bestLifted_0 (by decide) ?_
  refine lv_istore_n (lv' := [(2, .int 0), (0, .ref (a 5)), (1, .int x1)]) hx hb dX9_bestLifted_1 rfl hl (by decide) rfl (fun ls hl => ?_)
  refine lv_aload_n hx hb dX9_bestLifted_2 rfl (lv_at hl 1 rfl) ?_
  refine lv_iconst (v := 0) hx hb dX9_bestLifted_3 (by decide) ?_
  refine lv_iload_n hx hb dX9_bestLifted_4 rfl (lv_at hl 2 rfl) ?_
  obtain ⟨q1, e_1, hf⟩ := bns hf
  refine kW (rV (rest := []) C (c_X9_poolIfLifted l D g a hJ N M 0 x1 q1.1 q1.2 e_1) ok_X9_poolIfLifted wd_558 hP 5 (aC_5 g a M) rfl ⟨rfl, rfl, Nat.le_of_ble_eq_true rfl, Nat.le_of_ble_eq_true rfl⟩ rfl hl.1 rfl (Nat.le_of_ble_eq_true rfl) dX9_bestLifted_5 ⟨Nat.le_of_ble_eq_true rfl, Nat.le_of_ble_eq_true rfl⟩) hS (fun H locs hP hS => ?_)
  refine lv_istore_n (lv' := [(3, .int q1.1), (2, .int 0), (0, .ref (a 5)), (1, .int x1)]) hx hb dX9_bestLifted_8 rfl hl (by decide) rfl (fun ls hl => ?_)
  refine lv_iconst (v := 1) hx hb dX9_bestLifted_9 (by decide) ?_
  refine lv_istore (lv' := [(4, .int 1), (3, .int q1.1), (2, .int 0), (0, .ref (a 5)), (1, .int x1)]) hx hb dX9_bestLifted_10 hl (by decide) rfl (fun ls hl => ?_)
  exact w_X9_bestLifted_l12 C hJ N x1 r M' N q1.2 0 q1.1 1 H locs hP hS ls (lv_sub hl [3, 4, 2, 1, 0] rfl) hf
set_option maxHeartbeats 4000000 in
set_option maxRecDepth 100000 in
theorem w_X2_putInOrder_l17 {p : Program} {l : Launch} {e : Env} {s : State} {m : MethodId} {args : Array Value} {below : List Frame} {meth : Method} {c : Code} {D : va_G} {g : Nat → ClassId} {a : Nat → Nat} (C : Cx p s m args meth c cX2_putInOrder 5 none RX2 D (tyL g)) (hJ : Inj a 41) (N : Nat) (x3 : Int32) (x1 : Int32) (x2 : Int32) (M' : Mem) (kc : Mem → Int32 → Option (Mem)) (hkc : ∀ (M : Mem), ∀ (y4 : Int32), ∀ (H : Heap) (locs : List Loc), va_P D clL (wC g a M) H → va_S (inA a 41) s.heap H locs → ∀ (ls : Array Slot), lv_has ls 5 [(0, .ref (a 6)), (1, .int x1), (2, .int x2), (3, .int x3), (4, .int y4)] → kc M y4 = some M' → W p l e (rmv 0 0) s m args below meth c H locs 0 0 (MQ below (WvQ D (wC g a M') (inA a 41)) args s 0 0 (inA a 41)) (F0 m 57 ls [])) :
    ∀ (n : Nat) (M : Mem) (x4 : Int32), ∀ (H : Heap) (locs : List Loc), va_P D clL (wC g a M) H → va_S (inA a 41) s.heap H locs → ∀ (ls : Array Slot), lv_has ls 5 [(0, .ref (a 6)), (1, .int x1), (2, .int x2), (3, .int x3), (4, .int x4)] → f_X2_putInOrder_l17 kc N x3 n M x4 = some M' → W p l e (rmv 0 0) s m args below meth c H locs 0 0 (MQ below (WvQ D (wC g a M') (inA a 41)) args s 0 0 (inA a 41)) (F0 m 17 ls []) := by
  obtain ⟨hx, hb, hr, hml, hown, ht, hlocks, hK, hN⟩ := id C
  intro n
  induction n with
  | zero =>
    intro M x4 H locs hP hS ls hl hf
    exact nos hf
  | succ n ih =>
    intro M x4 H locs hP hS ls hl hf
    rw [f_X2_putInOrder_l17] at hf
    refine lv_iload hx hb dX2_putInOrder_17 (lv_at hl 4 rfl) ?_
    refine lv_if_le (tgt := 57) hx hb dX2_putInOrder_19 (by decide) (fun c_4 => ?_) (fun c_4 => ?_)
    · have hf := ifp c_4 hf
      exact hkc M x4 H locs hP hS ls (lv_sub hl [0, 1, 2, 3, 4] rfl) hf
    · have hf := ifn c_4 hf
      refine lv_aload_n hx hb dX2_putInOrder_22 rfl (lv_at hl 0 rfl) ?_
      refine fg_X2_9 C hP dX2_putInOrder_23 ?_
      refine lv_iload hx hb dX2_putInOrder_26 (lv_at hl 4 rfl) ?_
      refine lv_iconst (v := 1) hx hb dX2_putInOrder_28 (by decide) ?_
      refine lv_isub hx hb dX2_putInOrder_29 ?_
      obtain ⟨h_5, hf⟩ := ifs hf
      refine va_iald hx hb hK hP 37 0 (aC_37 g a M) rfl h_5 dX2_putInOrder_30 ?_
      refine lv_iload_n hx hb dX2_putInOrder_31 rfl (lv_at hl 3 rfl) ?_
      refine lv_icmp_le (tgt := 57) hx hb dX2_putInOrder_32 (by decide) (fun c_6 => ?_) (fun c_6 => ?_)
      · have hf := ifp c_6 hf
        exact hkc M x4 H locs hP hS ls (lv_sub hl [0, 1, 2, 3, 4] rfl) hf
      · have hf := ifn c_6 hf
        refine lv_aload_n hx hb dX2_putInOrder_35 rfl (lv_at hl 0 rfl) ?_
        refine fg_X2_9 C hP dX2_putInOrder_36 ?_
        refine lv_iload hx hb dX2_putInOrder_39 (lv_at hl 4 rfl) ?_
        refine lv_aload_n hx hb dX2_putInOrder_41 rfl (lv_at hl 0 rfl) ?_
        refine fg_X2_9 C hP dX2_putInOrder_42 ?_
        refine lv_iload hx hb dX2_putInOrder_45 (lv_at hl 4 rfl) ?_
        refine lv_iconst (v := 1) hx hb dX2_putInOrder_47 (by decide) ?_
        refine lv_isub hx hb dX2_putInOrder_48 ?_
        refine va_iald hx hb hK hP 37 0 (aC_37 g a M) rfl h_5 dX2_putInOrder_49 ?_
        obtain ⟨h_7, hf⟩ := ifs hf
        refine ast (wC g a) C hP (wC_D hJ) hS 37 0 (aC_37 g a M) rfl (sC_37 g a M) h_7 dX2_putInOrder_50 (fun H locs hP hS => ?_)
        obtain ⟨M8, eM8, hf⟩ := nms hf
        have hP : va_P D clL (wC g a M8) H := by rw [eM8]; exact hP
        refine lv_iinc (v := (x4 + (-1))) (lv' := [(4, .int (x4 + (-1))), (0, .ref (a 6)), (1, .int x1), (2, .int x2), (3, .int x3)]) hx hb dX2_putInOrder_51 hl (k := 4) rfl rfl (by decide) rfl (fun ls hl => ?_)
        refine lv_goto (tgt := 17) hx hb dX2_putInOrder_54 (by decide) ?_
        exact ih M8 (x4 + (-1)) H locs hP hS ls (lv_sub hl [1, 2, 3, 4, 0] rfl) hf
set_option maxHeartbeats 4000000 in
set_option maxRecDepth 100000 in
theorem w_X2_putInOrder_l2 {p : Program} {l : Launch} {e : Env} {s : State} {m : MethodId} {args : Array Value} {below : List Frame} {meth : Method} {c : Code} {D : va_G} {g : Nat → ClassId} {a : Nat → Nat} (C : Cx p s m args meth c cX2_putInOrder 5 none RX2 D (tyL g)) (hJ : Inj a 41) (N : Nat) (x1 : Int32) (M' : Mem) :
    ∀ (n : Nat) (M : Mem) (x2 : Int32), ∀ (H : Heap) (locs : List Loc), va_P D clL (wC g a M) H → va_S (inA a 41) s.heap H locs → ∀ (ls : Array Slot), lv_has ls 5 [(0, .ref (a 6)), (1, .int x1), (2, .int x2)] → f_X2_putInOrder_l2 N x1 n M x2 = some M' → W p l e (rmv 0 0) s m args below meth c H locs 0 0 (MQ below (WvQ D (wC g a M') (inA a 41)) args s 0 0 (inA a 41)) (F0 m 2 ls []) := by
  obtain ⟨hx, hb, hr, hml, hown, ht, hlocks, hK, hN⟩ := id C
  intro n
  induction n with
  | zero =>
    intro M x2 H locs hP hS ls hl hf
    exact nos hf
  | succ n ih =>
    intro M x2 H locs hP hS ls hl hf
    rw [f_X2_putInOrder_l2] at hf
    refine lv_iload_n hx hb dX2_putInOrder_2 rfl (lv_at hl 2 rfl) ?_
    refine lv_iload_n hx hb dX2_putInOrder_3 rfl (lv_at hl 1 rfl) ?_
    refine lv_icmp_ge (tgt := 71) hx hb dX2_putInOrder_4 (by decide) (fun c_1 => ?_) (fun c_1 => ?_)
    · have hf := ifp c_1 hf
      obtain rfl := Option.some.inj hf
      exact retWv C hP hS dX2_putInOrder_71
    · have hf := ifn c_1 hf
      refine lv_aload_n hx hb dX2_putInOrder_7 rfl (lv_at hl 0 rfl) ?_
      refine fg_X2_9 C hP dX2_putInOrder_8 ?_
      refine lv_iload_n hx hb dX2_putInOrder_11 rfl (lv_at hl 2 rfl) ?_
      obtain ⟨h_2, hf⟩ := ifs hf
      refine va_iald hx hb hK hP 37 0 (aC_37 g a M) rfl h_2 dX2_putInOrder_12 ?_
      refine lv_topi (fun z3 ez3 => ?_)
      have hf := nmr ez3 hf
      refine lv_istore_n (lv' := [(3, .int z3), (0, .ref (a 6)), (1, .int x1), (2, .int x2)]) hx hb dX2_putInOrder_13 rfl hl (by decide) rfl (fun ls hl => ?_)
      refine lv_iload_n hx hb dX2_putInOrder_14 rfl (lv_at hl 3 rfl) ?_
      refine lv_istore (lv' := [(4, .int x2), (3, .int z3), (0, .ref (a 6)), (1, .int x1), (2, .int x2)]) hx hb dX2_putInOrder_15 hl (by decide) rfl (fun ls hl => ?_)
      refine w_X2_putInOrder_l17 C hJ N z3 x1 x2 M' _ (fun M9 y4_9 H locs hP hS ls hl hf => ?_) N M x2 H locs hP hS ls (lv_sub hl [2, 3, 4, 1, 0] rfl) hf
      refine lv_aload_n hx hb dX2_putInOrder_57 rfl (lv_at hl 0 rfl) ?_
      refine fg_X2_9 C hP dX2_putInOrder_58 ?_
      refine lv_iload hx hb dX2_putInOrder_61 (lv_at hl 4 rfl) ?_
      refine lv_iload_n hx hb dX2_putInOrder_63 rfl (lv_at hl 3 rfl) ?_
      obtain ⟨h_10, hf⟩ := ifs hf
      refine ast (wC g a) C hP (wC_D hJ) hS 37 0 (aC_37 g a M9) rfl (sC_37 g a M9) h_10 dX2_putInOrder_64 (fun H locs hP hS => ?_)
      obtain ⟨M11, eM11, hf⟩ := nms hf
      have hP : va_P D clL (wC g a M11) H := by rw [eM11]; exact hP
      refine lv_iinc (v := (x2 + 1)) (lv' := [(2, .int (x2 + 1)), (0, .ref (a 6)), (1, .int x1), (3, .int z3), (4, .int y4_9)]) hx hb dX2_putInOrder_65 hl (k := 2) rfl rfl (by decide) rfl (fun ls hl => ?_)
      refine lv_goto (tgt := 2) hx hb dX2_putInOrder_68 (by decide) ?_
      exact ih M11 (x2 + 1) H locs hP hS ls (lv_sub hl [1, 2, 0] rfl) hf
set_option maxHeartbeats 4000000 in
set_option maxRecDepth 100000 in
theorem c_X2_putInOrder (l : Launch) (D : va_G) (g : Nat → ClassId) (a : Nat → Nat) (hJ : Inj a 41) (N : Nat) (M : Mem) (x1 : Int32) (M' : Mem) (hf : f_X2_putInOrder N M x1 = some M') : Met l yX2_putInOrder (cW yX2_putInOrder cX2_putInOrder 5 none) (rmv 0 0) (Pw D (tyL g) (wC g a M) [.ref (a 6), .int x1]) (WvQ D (wC g a M') (inA a 41)) 0 0 (inA a 41) := by
  unfold f_X2_putInOrder at hf
  refine met_inW (A := (inA a 41)) (by decide) (Nat.le_of_ble_eq_true rfl) ?_
  intro p e s m args below meth c ls H locs C hP hS hl
  have C : Cx p s m args meth c cX2_putInOrder 5 none RX2 D (tyL g) := C
  obtain ⟨hx, hb, hr, hml, hown, ht, hlocks, hK, hN⟩ := id C
  have hl : lv_has ls 5 [(0, .ref (a 6)), (1, .int x1)] := hl
  refine lv_iconst (v := 1) hx hb dX2_putInOrder_0 (by decide) ?_
  refine lv_istore_n (lv' := [(2, .int 1), (0, .ref (a 6)), (1, .int x1)]) hx hb dX2_putInOrder_1 rfl hl (by decide) rfl (fun ls hl => ?_)
  exact w_X2_putInOrder_l2 C hJ N x1 M' N M 1 H locs hP hS ls (lv_sub hl [1, 2, 0] rfl) hf
set_option maxHeartbeats 4000000 in
set_option maxRecDepth 100000 in
theorem w_X2_nightsTill_l105 {p : Program} {l : Launch} {e : Env} {s : State} {m : MethodId} {args : Array Value} {below : List Frame} {meth : Method} {c : Code} {D : va_G} {g : Nat → ClassId} {a : Nat → Nat} (C : Cx p s m args meth c cX2_nightsTill 8 (some .int) RX2 D (tyL g)) (hJ : Inj a 41) (N : Nat) (x5 : Int32) (x3 : Int32) (x4 : Int32) (x6 : Int32) (r : Int32) (M' : Mem) (kc : Mem → Option (Int32 × Mem)) (hkc : ∀ (M : Mem), ∀ (H : Heap) (locs : List Loc), va_P D clL (wC g a M) H → va_S (inA a 41) s.heap H locs → ∀ (ls : Array Slot), lv_has ls 8 [(0, .ref (a 6)), (3, .int x3), (4, .int x4), (5, .int x5), (6, .int x6)] → kc M = some (r, M') → W p l e (rmv 4 89) s m args below meth c H locs 0 0 (MQ below (WrQ D (wC g a M') (inA a 41) (.int r)) args s 0 0 (inA a 41)) (F0 m 130 ls [])) :
    ∀ (n : Nat) (M : Mem) (x7 : Int32), ∀ (H : Heap) (locs : List Loc), va_P D clL (wC g a M) H → va_S (inA a 41) s.heap H locs → ∀ (ls : Array Slot), lv_has ls 8 [(0, .ref (a 6)), (3, .int x3), (4, .int x4), (5, .int x5), (6, .int x6), (7, .int x7)] → f_X2_nightsTill_l105 kc N x5 n M x7 = some (r, M') → W p l e (rmv 4 89) s m args below meth c H locs 0 0 (MQ below (WrQ D (wC g a M') (inA a 41) (.int r)) args s 0 0 (inA a 41)) (F0 m 105 ls []) := by
  obtain ⟨hx, hb, hr, hml, hown, ht, hlocks, hK, hN⟩ := id C
  intro n
  induction n with
  | zero =>
    intro M x7 H locs hP hS ls hl hf
    exact nos hf
  | succ n ih =>
    intro M x7 H locs hP hS ls hl hf
    rw [f_X2_nightsTill_l105] at hf
    refine lv_iload hx hb dX2_nightsTill_105 (lv_at hl 5 rfl) ?_
    refine lv_iload hx hb dX2_nightsTill_107 (lv_at hl 3 rfl) ?_
    refine lv_icmp_ge (tgt := 130) hx hb dX2_nightsTill_109 (by decide) (fun c_8 => ?_) (fun c_8 => ?_)
    · have hf := ifp c_8 hf
      exact hkc M H locs hP hS ls (lv_sub hl [0, 1, 2, 3, 4] rfl) hf
    · have hf := ifn c_8 hf
      refine lv_aload_n hx hb dX2_nightsTill_112 rfl (lv_at hl 0 rfl) ?_
      refine fg_X2_9 C hP dX2_nightsTill_113 ?_
      refine lv_iload hx hb dX2_nightsTill_116 (lv_at hl 5 rfl) ?_
      refine lv_dup2_11 hx hb dX2_nightsTill_118 rfl rfl ?_
      obtain ⟨h_9, hf⟩ := ifs hf
      refine va_iald hx hb hK hP 37 0 (aC_37 g a M) rfl h_9 dX2_nightsTill_119 ?_
      refine lv_bipush (v := 32) hx hb dX2_nightsTill_120 (by decide) ?_
      refine lv_iadd hx hb dX2_nightsTill_122 ?_
      refine ast (wC g a) C hP (wC_D hJ) hS 37 0 (aC_37 g a M) rfl (sC_37 g a M) h_9 dX2_nightsTill_123 (fun H locs hP hS => ?_)
      obtain ⟨M10, eM10, hf⟩ := nms hf
      have hP : va_P D clL (wC g a M10) H := by rw [eM10]; exact hP
      refine lv_iinc (v := (x7 + 1)) (lv' := [(7, .int (x7 + 1)), (0, .ref (a 6)), (3, .int x3), (4, .int x4), (5, .int x5), (6, .int x6)]) hx hb dX2_nightsTill_124 hl (k := 5) rfl rfl (by decide) rfl (fun ls hl => ?_)
      refine lv_goto (tgt := 105) hx hb dX2_nightsTill_127 (by decide) ?_
      exact ih M10 (x7 + 1) H locs hP hS ls (lv_sub hl [1, 2, 3, 4, 5, 0] rfl) hf
set_option maxHeartbeats 4000000 in
set_option maxRecDepth 100000 in
theorem w_X2_nightsTill_l59 {p : Program} {l : Launch} {e : Env} {s : State} {m : MethodId} {args : Array Value} {below : List Frame} {meth : Method} {c : Code} {D : va_G} {g : Nat → ClassId} {a : Nat → Nat} (C : Cx p s m args meth c cX2_nightsTill 8 (some .int) RX2 D (tyL g)) (hJ : Inj a 41) (N : Nat) (x3 : Int32) (x4 : Int32) (x5 : Int32) (r : Int32) (M' : Mem) :
    ∀ (n : Nat) (M : Mem) (x6 : Int32), ∀ (H : Heap) (locs : List Loc), va_P D clL (wC g a M) H → va_S (inA a 41) s.heap H locs → ∀ (ls : Array Slot), lv_has ls 8 [(0, .ref (a 6)), (3, .int x3), (4, .int x4), (5, .int x5), (6, .int x6)] → f_X2_nightsTill_l59 N x3 x4 x5 n M x6 = some (r, M') → W p l e (rmv 4 89) s m args below meth c H locs 0 0 (MQ below (WrQ D (wC g a M') (inA a 41) (.int r)) args s 0 0 (inA a 41)) (F0 m 59 ls []) := by
  obtain ⟨hx, hb, hr, hml, hown, ht, hlocks, hK, hN⟩ := id C
  intro n
  induction n with
  | zero =>
    intro M x6 H locs hP hS ls hl hf
    exact nos hf
  | succ n ih =>
    intro M x6 H locs hP hS ls hl hf
    rw [f_X2_nightsTill_l59] at hf
    refine lv_iload hx hb dX2_nightsTill_59 (lv_at hl 4 rfl) ?_
    refine lv_sipush (v := 500) hx hb dX2_nightsTill_61 (by decide) ?_
    refine lv_icmp_gt (tgt := 136) hx hb dX2_nightsTill_64 (by decide) (fun c_4 => ?_) (fun c_4 => ?_)
    · have hf := ifp c_4 hf
      refine lv_bipush (v := (-9)) hx hb dX2_nightsTill_136 (by decide) ?_
      obtain ⟨rfl, rfl⟩ := Prod.mk.inj (Option.some.inj hf)
      exact retW C hP hS dX2_nightsTill_138
    · have hf := ifn c_4 hf
      refine lv_aload_n hx hb dX2_nightsTill_67 rfl (lv_at hl 0 rfl) ?_
      refine lv_iload hx hb dX2_nightsTill_68 (lv_at hl 2 rfl) ?_
      obtain ⟨M5, e_5, hf⟩ := bns hf
      refine kWv (rV (rest := []) C (c_X2_putInOrder l D g a hJ N M x4 M5 e_5) ok_X2_putInOrder wd_585 hP 6 (aC_6 g a M) rfl ⟨rfl, rfl, Nat.le_of_ble_eq_true rfl, Nat.le_of_ble_eq_true rfl⟩ rfl hl.1 rfl (Nat.le_of_ble_eq_true rfl) dX2_nightsTill_70 ⟨Nat.le_of_ble_eq_true rfl, Nat.le_of_ble_eq_true rfl⟩) hS (fun H locs hP hS => ?_)
      refine lv_aload_n hx hb dX2_nightsTill_73 rfl (lv_at hl 0 rfl) ?_
      refine fg_X2_9 C hP dX2_nightsTill_74 ?_
      refine lv_iload hx hb dX2_nightsTill_77 (lv_at hl 2 rfl) ?_
      refine lv_iconst (v := 1) hx hb dX2_nightsTill_79 (by decide) ?_
      refine lv_isub hx hb dX2_nightsTill_80 ?_
      obtain ⟨h_6, hf⟩ := ifs hf
      refine va_iald hx hb hK hP 37 0 (aC_37 g a M5) rfl h_6 dX2_nightsTill_81 ?_
      refine lv_bipush (v := 32) hx hb dX2_nightsTill_82 (by decide) ?_
      refine lv_idiv hx hb dX2_nightsTill_84 (by decide) ?_
      refine lv_aload_n hx hb dX2_nightsTill_85 rfl (lv_at hl 0 rfl) ?_
      refine fg_X2_9 C hP dX2_nightsTill_86 ?_
      refine lv_iconst (v := 0) hx hb dX2_nightsTill_89 (by decide) ?_
      refine va_iald hx hb hK hP 37 0 (aC_37 g a M5) rfl (show ¬ ((0 : Int32) < 0 ∨ 30 ≤ (0 : Int32).toNatClampNeg) by decide) dX2_nightsTill_90 ?_
      refine lv_bipush (v := 32) hx hb dX2_nightsTill_91 (by decide) ?_
      refine lv_idiv hx hb dX2_nightsTill_93 (by decide) ?_
      refine lv_isub hx hb dX2_nightsTill_94 ?_
      refine lv_iload_n hx hb dX2_nightsTill_95 rfl (lv_at hl 1 rfl) ?_
      refine lv_icmp_gt (tgt := 102) hx hb dX2_nightsTill_96 (by decide) (fun c_7 => ?_) (fun c_7 => ?_)
      · have hf := ifp c_7 hf
        refine lv_iconst (v := 0) hx hb dX2_nightsTill_102 (by decide) ?_
        refine lv_istore (lv' := [(7, .int 0), (0, .ref (a 6)), (3, .int x3), (4, .int x4), (5, .int x5), (6, .int x6)]) hx hb dX2_nightsTill_103 hl (by decide) rfl (fun ls hl => ?_)
        refine w_X2_nightsTill_l105 C hJ N x5 x3 x4 x6 r M' _ (fun M11 H locs hP hS ls hl hf => ?_) N M5 0 H locs hP hS ls (lv_sub hl [1, 2, 3, 4, 5, 0] rfl) hf
        refine lv_iinc (v := (x6 + 1)) (lv' := [(6, .int (x6 + 1)), (0, .ref (a 6)), (3, .int x3), (4, .int x4), (5, .int x5)]) hx hb dX2_nightsTill_130 hl (k := 4) rfl rfl (by decide) rfl (fun ls hl => ?_)
        refine lv_goto (tgt := 59) hx hb dX2_nightsTill_133 (by decide) ?_
        exact ih M11 (x6 + 1) H locs hP hS ls (lv_sub hl [1, 2, 3, 4, 0] rfl) hf
      · have hf := ifn c_7 hf
        refine lv_iload hx hb dX2_nightsTill_99 (lv_at hl 4 rfl) ?_
        obtain ⟨rfl, rfl⟩ := Prod.mk.inj (Option.some.inj hf)
        exact retW C hP hS dX2_nightsTill_101
set_option maxHeartbeats 4000000 in
set_option maxRecDepth 100000 in
theorem w_X2_nightsTill_l20 {p : Program} {l : Launch} {e : Env} {s : State} {m : MethodId} {args : Array Value} {below : List Frame} {meth : Method} {c : Code} {D : va_G} {g : Nat → ClassId} {a : Nat → Nat} (C : Cx p s m args meth c cX2_nightsTill 8 (some .int) RX2 D (tyL g)) (hJ : Inj a 41) (N : Nat) (x1 : Int32) (x3 : Int32) (x4 : Int32) (x5 : Int32) (r : Int32) (M' : Mem) :
    ∀ (n : Nat) (M : Mem) (x6 : Int32), ∀ (H : Heap) (locs : List Loc), va_P D clL (wC g a M) H → va_S (inA a 41) s.heap H locs → ∀ (ls : Array Slot), lv_has ls 8 [(0, .ref (a 6)), (1, .int x1), (3, .int x3), (4, .int x4), (5, .int x5), (6, .int x6)] → f_X2_nightsTill_l20 N x1 x3 x4 x5 n M x6 = some (r, M') → W p l e (rmv 4 89) s m args below meth c H locs 0 0 (MQ below (WrQ D (wC g a M') (inA a 41) (.int r)) args s 0 0 (inA a 41)) (F0 m 20 ls []) := by
  obtain ⟨hx, hb, hr, hml, hown, ht, hlocks, hK, hN⟩ := id C
  intro n
  induction n with
  | zero =>
    intro M x6 H locs hP hS ls hl hf
    exact nos hf
  | succ n ih =>
    intro M x6 H locs hP hS ls hl hf
    rw [f_X2_nightsTill_l20] at hf
    refine lv_iload hx hb dX2_nightsTill_20 (lv_at hl 5 rfl) ?_
    refine lv_iload hx hb dX2_nightsTill_22 (lv_at hl 3 rfl) ?_
    refine lv_icmp_ge (tgt := 56) hx hb dX2_nightsTill_24 (by decide) (fun c_3 => ?_) (fun c_3 => ?_)
    · have hf := ifp c_3 hf
      refine lv_iconst (v := 0) hx hb dX2_nightsTill_56 (by decide) ?_
      refine lv_istore (lv' := [(6, .int 0), (0, .ref (a 6)), (1, .int x1), (3, .int x3), (4, .int x4), (5, .int x5)]) hx hb dX2_nightsTill_57 hl (by decide) rfl (fun ls hl => ?_)
      exact w_X2_nightsTill_l59 C hJ N x3 x4 x5 r M' N M 0 H locs hP hS ls (lv_sub hl [1, 3, 4, 5, 0] rfl) hf
    · have hf := ifn c_3 hf
      refine lv_aload_n hx hb dX2_nightsTill_27 rfl (lv_at hl 0 rfl) ?_
      refine fg_X2_9 C hP dX2_nightsTill_28 ?_
      refine lv_iload hx hb dX2_nightsTill_31 (lv_at hl 5 rfl) ?_
      refine lv_aload_n hx hb dX2_nightsTill_33 rfl (lv_at hl 0 rfl) ?_
      refine fg_X2_15 C hP dX2_nightsTill_34 ?_
      refine lv_iload hx hb dX2_nightsTill_37 (lv_at hl 5 rfl) ?_
      refine lv_iload_n hx hb dX2_nightsTill_39 rfl (lv_at hl 1 rfl) ?_
      obtain ⟨r12, e_12, hf⟩ := bns hf
      refine kR (rV (rest := [.int x6, .ref (a 37)]) C (c_X3_heightOf l D g a M x6 x1 r12 e_12) ok_X3_heightOf wd_584 hP 2 (aC_2 g a M) rfl ⟨rfl, rfl, Nat.le_of_ble_eq_true rfl, Nat.le_of_ble_eq_true rfl⟩ rfl hl.1 rfl (Nat.le_of_ble_eq_true rfl) dX2_nightsTill_40 ⟨Nat.le_of_ble_eq_true rfl, Nat.le_of_ble_eq_true rfl⟩) ?_
      refine lv_bipush (v := 32) hx hb dX2_nightsTill_43 (by decide) ?_
      refine lv_imul hx hb dX2_nightsTill_45 ?_
      refine lv_iload hx hb dX2_nightsTill_46 (lv_at hl 5 rfl) ?_
      refine lv_iadd hx hb dX2_nightsTill_48 ?_
      obtain ⟨h_13, hf⟩ := ifs hf
      refine ast (wC g a) C hP (wC_D hJ) hS 37 0 (aC_37 g a M) rfl (sC_37 g a M) h_13 dX2_nightsTill_49 (fun H locs hP hS => ?_)
      obtain ⟨M14, eM14, hf⟩ := nms hf
      have hP : va_P D clL (wC g a M14) H := by rw [eM14]; exact hP
      refine lv_iinc (v := (x6 + 1)) (lv' := [(6, .int (x6 + 1)), (0, .ref (a 6)), (1, .int x1), (3, .int x3), (4, .int x4), (5, .int x5)]) hx hb dX2_nightsTill_50 hl (k := 5) rfl rfl (by decide) rfl (fun ls hl => ?_)
      refine lv_goto (tgt := 20) hx hb dX2_nightsTill_53 (by decide) ?_
      exact ih M14 (x6 + 1) H locs hP hS ls (lv_sub hl [1, 2, 3, 4, 5, 0] rfl) hf
set_option maxHeartbeats 4000000 in
set_option maxRecDepth 100000 in
theorem c_X2_nightsTill (l : Launch) (D : va_G) (g : Nat → ClassId) (a : Nat → Nat) (hJ : Inj a 41) (N : Nat) (M : Mem) (x1 : Int32) (x2 : Int32) (x3 : Int32) (r : Int32) (M' : Mem) (hf : f_X2_nightsTill N M x1 x2 x3 = some (r, M')) : Met l yX2_nightsTill (cW yX2_nightsTill cX2_nightsTill 8 (some .int)) (rmv 4 89) (Pw D (tyL g) (wC g a M) [.ref (a 6), .int x1, .int x2, .int x3]) (WrQ D (wC g a M') (inA a 41) (.int r)) 0 0 (inA a 41) := by
  unfold f_X2_nightsTill at hf
  refine met_inW (A := (inA a 41)) (by decide) (Nat.le_of_ble_eq_true rfl) ?_
  intro p e s m args below meth c ls H locs C hP hS hl
  have C : Cx p s m args meth c cX2_nightsTill 8 (some .int) RX2 D (tyL g) := C
  obtain ⟨hx, hb, hr, hml, hown, ht, hlocks, hK, hN⟩ := id C
  have hl : lv_has ls 8 [(0, .ref (a 6)), (1, .int x1), (2, .int x2), (3, .int x3)] := hl
  refine lv_aload_n hx hb dX2_nightsTill_0 rfl (lv_at hl 0 rfl) ?_
  refine fg_X2_15 C hP dX2_nightsTill_1 ?_
  obtain ⟨r1, e_1, hf⟩ := bns hf
  refine kR (rV (rest := []) C (c_X3_stones l D g a M r1 e_1) ok_X3_stones wd_582 hP 2 (aC_2 g a M) rfl ⟨rfl, rfl, Nat.le_of_ble_eq_true rfl, Nat.le_of_ble_eq_true rfl⟩ rfl hl.1 rfl (Nat.le_of_ble_eq_true rfl) dX2_nightsTill_4 ⟨Nat.le_of_ble_eq_true rfl, Nat.le_of_ble_eq_true rfl⟩) ?_
  refine lv_istore (lv' := [(4, .int r1), (0, .ref (a 6)), (1, .int x1), (2, .int x2), (3, .int x3)]) hx hb dX2_nightsTill_7 hl (by decide) rfl (fun ls hl => ?_)
  refine lv_iload_n hx hb dX2_nightsTill_9 rfl (lv_at hl 3 rfl) ?_
  refine lv_iload hx hb dX2_nightsTill_10 (lv_at hl 0 rfl) ?_
  refine va_mmin hx hb (hml.trans hl.1.symm) hown (ht _ wd_583) (ht _ wd_440) (ht _ wd_14) (ht _ wd_441) (Nat.le_of_ble_eq_true rfl) (Nat.le_of_ble_eq_true rfl) (Nat.le_refl _) (Nat.le_refl _) dX2_nightsTill_12 ?_
  refine lv_topi (fun z2 ez2 => ?_)
  have hf := nmr ez2 hf
  refine lv_istore (lv' := [(5, .int z2), (4, .int r1), (0, .ref (a 6)), (1, .int x1), (2, .int x2), (3, .int x3)]) hx hb dX2_nightsTill_15 hl (by decide) rfl (fun ls hl => ?_)
  refine lv_iconst (v := 0) hx hb dX2_nightsTill_17 (by decide) ?_
  refine lv_istore (lv' := [(6, .int 0), (5, .int z2), (4, .int r1), (0, .ref (a 6)), (1, .int x1), (2, .int x2), (3, .int x3)]) hx hb dX2_nightsTill_18 hl (by decide) rfl (fun ls hl => ?_)
  exact w_X2_nightsTill_l20 C hJ N x1 x3 r1 z2 r M' N M 0 H locs hP hS ls (lv_sub hl [3, 4, 6, 2, 1, 0] rfl) hf
