set_option maxHeartbeats 4000000 in
set_option maxRecDepth 100000 in
theorem w_X12_findFar_l64 {p : Program} {l : Launch} {e : Env} {s : State} {m : MethodId} {args : Array Value} {below : List Frame} {meth : Method} {c : Code} {D : va_G} {g : Nat → ClassId} {a : Nat → Nat} (C : Cx p s m args meth c cX12_findFar 9 none RX12 D (tyL g)) (hJ : Inj a 18) (N : Nat) (x2 : Int32) (x3 : Int32) (x4 : Int32) (x5 : Int32) (x6 : Int32) (M' : Mem) (kc : Mem → Option (Mem)) (hkc : ∀ (M : Mem), ∀ (H : Heap) (locs : List Loc), va_P D clL (wM g a M) H → va_S (inA a 18) s.heap H locs → ∀ (ls : Array Slot), lv_has ls 9 [(0, .ref (a 0)), (2, .int x2), (3, .int x3), (4, .int x4), (5, .int x5), (6, .int x6)] → kc M = some M' → W p l e (rmv 3 72) s m args below meth c H locs 0 0 (MQ below (WvQ D (wM g a M') (inA a 18)) args s 0 0 (inA a 18)) (F0 m 143 ls [])) :
    ∀ (n : Nat) (M : Mem) (x7 : Int32), ∀ (H : Heap) (locs : List Loc), va_P D clL (wM g a M) H → va_S (inA a 18) s.heap H locs → ∀ (ls : Array Slot), lv_has ls 9 [(0, .ref (a 0)), (2, .int x2), (3, .int x3), (4, .int x4), (5, .int x5), (6, .int x6), (7, .int x7)] → f_X12_findFar_l64 kc N x2 x3 x4 x5 x6 n M x7 = some M' → W p l e (rmv 3 72) s m args below meth c H locs 0 0 (MQ below (WvQ D (wM g a M') (inA a 18)) args s 0 0 (inA a 18)) (F0 m 64 ls []) := by
  obtain ⟨hx, hb, hr, hml, hown, ht, hlocks, hK, hN⟩ := id C
  intro n
  induction n with
  | zero =>
    intro M x7 H locs hP hS ls hl hf
    exact nos hf
  | succ n ih =>
    intro M x7 H locs hP hS ls hl hf
    rw [f_X12_findFar_l64] at hf
    refine lv_iload hx hb dX12_findFar_64 (lv_at hl 6 rfl) ?_
    refine lv_iconst (v := 4) hx hb dX12_findFar_66 (by decide) ?_
    refine lv_icmp_ge (tgt := 143) hx hb dX12_findFar_67 (by decide) (fun c_7 => ?_) (fun c_7 => ?_)
    · have hf := ifp c_7 hf
      exact hkc M H locs hP hS ls (lv_sub hl [0, 1, 2, 3, 4, 5] rfl) hf
    · have hf := ifn c_7 hf
      refine lv_aload_n hx hb dX12_findFar_70 rfl (lv_at hl 0 rfl) ?_
      refine fg_X12_40 C hP dX12_findFar_71 ?_
      refine lv_iload hx hb dX12_findFar_74 (lv_at hl 5 rfl) ?_
      obtain ⟨h_8, hf⟩ := ifs hf
      refine va_iald hx hb hK hP 11 0 (aM_11 g a M) rfl h_8 dX12_findFar_76 ?_
      refine lv_iload hx hb dX12_findFar_77 (lv_at hl 4 rfl) ?_
      refine lv_icmp_ne (tgt := 143) hx hb dX12_findFar_79 (by decide) (fun c_9 => ?_) (fun c_9 => ?_)
      · have hf := ifn c_9 hf
        exact hkc M H locs hP hS ls (lv_sub hl [0, 1, 2, 3, 4, 5] rfl) hf
      · have hf := ifp c_9 hf
        refine lv_aload_n hx hb dX12_findFar_82 rfl (lv_at hl 0 rfl) ?_
        refine lv_iload hx hb dX12_findFar_83 (lv_at hl 5 rfl) ?_
        refine lv_iload hx hb dX12_findFar_85 (lv_at hl 6 rfl) ?_
        obtain ⟨r10, e_10, hf⟩ := bns hf
        refine kR (rV (rest := []) C (c_X12_beside l D g a M x6 x7 r10 e_10) ok_X12_beside wd_890 hP 0 (aM_0 g a M) rfl ⟨rfl, rfl, Nat.le_of_ble_eq_true rfl, Nat.le_of_ble_eq_true rfl⟩ rfl hl.1 rfl (Nat.le_of_ble_eq_true rfl) dX12_findFar_87 ⟨Nat.le_of_ble_eq_true rfl, Nat.le_of_ble_eq_true rfl⟩) ?_
        refine lv_istore (lv' := [(8, .int r10), (0, .ref (a 0)), (2, .int x2), (3, .int x3), (4, .int x4), (5, .int x5), (6, .int x6), (7, .int x7)]) hx hb dX12_findFar_90 hl (by decide) rfl (fun ls hl => ?_)
        refine lv_iload hx hb dX12_findFar_92 (lv_at hl 0 rfl) ?_
        refine lv_bipush (v := (-9)) hx hb dX12_findFar_94 (by decide) ?_
        refine lv_icmp_eq (tgt := 137) hx hb dX12_findFar_96 (by decide) (fun c_11 => ?_) (fun c_11 => ?_)
        · have hf := ifp c_11 hf
          refine lv_iinc (v := (x7 + 1)) (lv' := [(7, .int (x7 + 1)), (8, .int r10), (0, .ref (a 0)), (2, .int x2), (3, .int x3), (4, .int x4), (5, .int x5), (6, .int x6)]) hx hb dX12_findFar_137 hl (k := 7) rfl rfl (by decide) rfl (fun ls hl => ?_)
          refine lv_goto (tgt := 64) hx hb dX12_findFar_140 (by decide) ?_
          exact ih M (x7 + 1) H locs hP hS ls (lv_sub hl [2, 3, 4, 5, 6, 7, 0] rfl) hf
        · have hf := ifn c_11 hf
          refine lv_aload_n hx hb dX12_findFar_99 rfl (lv_at hl 1 rfl) ?_
          refine fg_X12_40 C hP dX12_findFar_100 ?_
          refine lv_iload hx hb dX12_findFar_103 (lv_at hl 0 rfl) ?_
          obtain ⟨h_12, hf⟩ := ifs hf
          refine va_iald hx hb hK hP 11 0 (aM_11 g a M) rfl h_12 dX12_findFar_105 ?_
          refine lv_ldc hx hb hown (ht _ wd_889) dX12_findFar_106 ?_
          refine lv_icmp_ne (tgt := 137) hx hb dX12_findFar_108 (by decide) (fun c_13 => ?_) (fun c_13 => ?_)
          · have hf := ifn c_13 hf
            refine lv_iinc (v := (x7 + 1)) (lv' := [(7, .int (x7 + 1)), (8, .int r10), (0, .ref (a 0)), (2, .int x2), (3, .int x3), (4, .int x4), (5, .int x5), (6, .int x6)]) hx hb dX12_findFar_137 hl (k := 7) rfl rfl (by decide) rfl (fun ls hl => ?_)
            refine lv_goto (tgt := 64) hx hb dX12_findFar_140 (by decide) ?_
            exact ih M (x7 + 1) H locs hP hS ls (lv_sub hl [2, 3, 4, 5, 6, 7, 0] rfl) hf
          · have hf := ifp c_13 hf
            refine lv_aload_n hx hb dX12_findFar_111 rfl (lv_at hl 1 rfl) ?_
            refine lv_iload hx hb dX12_findFar_112 (lv_at hl 6 rfl) ?_
            refine lv_iload hx hb dX12_findFar_114 (lv_at hl 0 rfl) ?_
            refine lv_iload_n hx hb dX12_findFar_116 rfl (lv_at hl 2 rfl) ?_
            refine lv_iload_n hx hb dX12_findFar_117 rfl (lv_at hl 3 rfl) ?_
            refine lv_iload hx hb dX12_findFar_118 (lv_at hl 4 rfl) ?_
            obtain ⟨r14, e_14, hf⟩ := bns hf
            refine kR (rV (rest := []) C (c_X12_isStep l D g a N M x6 r10 x2 x3 x4 r14 e_14) ok_X12_isStep wd_894 hP 0 (aM_0 g a M) rfl ⟨rfl, rfl, Nat.le_of_ble_eq_true rfl, Nat.le_of_ble_eq_true rfl⟩ rfl hl.1 rfl (Nat.le_of_ble_eq_true rfl) dX12_findFar_120 ⟨Nat.le_of_ble_eq_true rfl, Nat.le_of_ble_eq_true rfl⟩) ?_
            refine lv_if_eq (tgt := 137) hx hb dX12_findFar_123 (by decide) (fun c_15 => ?_) (fun c_15 => ?_)
            · have hf := ifp c_15 hf
              refine lv_iinc (v := (x7 + 1)) (lv' := [(7, .int (x7 + 1)), (8, .int r10), (0, .ref (a 0)), (2, .int x2), (3, .int x3), (4, .int x4), (5, .int x5), (6, .int x6)]) hx hb dX12_findFar_137 hl (k := 7) rfl rfl (by decide) rfl (fun ls hl => ?_)
              refine lv_goto (tgt := 64) hx hb dX12_findFar_140 (by decide) ?_
              exact ih M (x7 + 1) H locs hP hS ls (lv_sub hl [2, 3, 4, 5, 6, 7, 0] rfl) hf
            · have hf := ifn c_15 hf
              refine lv_aload_n hx hb dX12_findFar_126 rfl (lv_at hl 1 rfl) ?_
              refine fg_X12_40 C hP dX12_findFar_127 ?_
              refine lv_iload hx hb dX12_findFar_130 (lv_at hl 0 rfl) ?_
              refine lv_iload hx hb dX12_findFar_132 (lv_at hl 5 rfl) ?_
              refine lv_iconst (v := 1) hx hb dX12_findFar_134 (by decide) ?_
              refine lv_iadd hx hb dX12_findFar_135 ?_
              refine ast (wM g a) C hP (wM_D hJ) hS 11 0 (aM_11 g a M) rfl (sM_11 g a M) h_12 dX12_findFar_136 (fun H locs hP hS => ?_)
              obtain ⟨M16, eM16, hf⟩ := nms hf
              have hP : va_P D clL (wM g a M16) H := by rw [eM16]; exact hP
              refine lv_iinc (v := (x7 + 1)) (lv' := [(7, .int (x7 + 1)), (8, .int r10), (0, .ref (a 0)), (2, .int x2), (3, .int x3), (4, .int x4), (5, .int x5), (6, .int x6)]) hx hb dX12_findFar_137 hl (k := 7) rfl rfl (by decide) rfl (fun ls hl => ?_)
              refine lv_goto (tgt := 64) hx hb dX12_findFar_140 (by decide) ?_
              exact ih M16 (x7 + 1) H locs hP hS ls (lv_sub hl [2, 3, 4, 5, 6, 7, 0] rfl) hf
set_option maxHeartbeats 4000000 in
set_option maxRecDepth 100000 in
theorem w_X12_findFar_l52 {p : Program} {l : Launch} {e : Env} {s : State} {m : MethodId} {args : Array Value} {below : List Frame} {meth : Method} {c : Code} {D : va_G} {g : Nat → ClassId} {a : Nat → Nat} (C : Cx p s m args meth c cX12_findFar 9 none RX12 D (tyL g)) (hJ : Inj a 18) (N : Nat) (x2 : Int32) (x3 : Int32) (x4 : Int32) (x5 : Int32) (M' : Mem) (kc : Mem → Option (Mem)) (hkc : ∀ (M : Mem), ∀ (H : Heap) (locs : List Loc), va_P D clL (wM g a M) H → va_S (inA a 18) s.heap H locs → ∀ (ls : Array Slot), lv_has ls 9 [(0, .ref (a 0)), (2, .int x2), (3, .int x3), (4, .int x4), (5, .int x5)] → kc M = some M' → W p l e (rmv 3 72) s m args below meth c H locs 0 0 (MQ below (WvQ D (wM g a M') (inA a 18)) args s 0 0 (inA a 18)) (F0 m 149 ls [])) :
    ∀ (n : Nat) (M : Mem) (x6 : Int32), ∀ (H : Heap) (locs : List Loc), va_P D clL (wM g a M) H → va_S (inA a 18) s.heap H locs → ∀ (ls : Array Slot), lv_has ls 9 [(0, .ref (a 0)), (2, .int x2), (3, .int x3), (4, .int x4), (5, .int x5), (6, .int x6)] → f_X12_findFar_l52 kc N x2 x3 x4 x5 n M x6 = some M' → W p l e (rmv 3 72) s m args below meth c H locs 0 0 (MQ below (WvQ D (wM g a M') (inA a 18)) args s 0 0 (inA a 18)) (F0 m 52 ls []) := by
  obtain ⟨hx, hb, hr, hml, hown, ht, hlocks, hK, hN⟩ := id C
  intro n
  induction n with
  | zero =>
    intro M x6 H locs hP hS ls hl hf
    exact nos hf
  | succ n ih =>
    intro M x6 H locs hP hS ls hl hf
    rw [f_X12_findFar_l52] at hf
    refine lv_iload hx hb dX12_findFar_52 (lv_at hl 5 rfl) ?_
    refine lv_aload_n hx hb dX12_findFar_54 rfl (lv_at hl 0 rfl) ?_
    obtain ⟨r5, e_5, hf⟩ := bns hf
    refine kR (rV (rest := [.int x6]) C (c_X12_all l D g a M r5 e_5) ok_X12_all wd_842 hP 0 (aM_0 g a M) rfl ⟨rfl, rfl, Nat.le_of_ble_eq_true rfl, Nat.le_of_ble_eq_true rfl⟩ rfl hl.1 rfl (Nat.le_of_ble_eq_true rfl) dX12_findFar_55 ⟨Nat.le_of_ble_eq_true rfl, Nat.le_of_ble_eq_true rfl⟩) ?_
    refine lv_icmp_ge (tgt := 149) hx hb dX12_findFar_58 (by decide) (fun c_6 => ?_) (fun c_6 => ?_)
    · have hf := ifp c_6 hf
      exact hkc M H locs hP hS ls (lv_sub hl [0, 1, 2, 3, 4] rfl) hf
    · have hf := ifn c_6 hf
      refine lv_iconst (v := 0) hx hb dX12_findFar_61 (by decide) ?_
      refine lv_istore (lv' := [(7, .int 0), (0, .ref (a 0)), (2, .int x2), (3, .int x3), (4, .int x4), (5, .int x5), (6, .int x6)]) hx hb dX12_findFar_62 hl (by decide) rfl (fun ls hl => ?_)
      refine w_X12_findFar_l64 C hJ N x2 x3 x4 x5 x6 M' _ (fun M17 H locs hP hS ls hl hf => ?_) N M 0 H locs hP hS ls (lv_sub hl [1, 2, 3, 4, 5, 6, 0] rfl) hf
      refine lv_iinc (v := (x6 + 1)) (lv' := [(6, .int (x6 + 1)), (0, .ref (a 0)), (2, .int x2), (3, .int x3), (4, .int x4), (5, .int x5)]) hx hb dX12_findFar_143 hl (k := 5) rfl rfl (by decide) rfl (fun ls hl => ?_)
      refine lv_goto (tgt := 52) hx hb dX12_findFar_146 (by decide) ?_
      exact ih M17 (x6 + 1) H locs hP hS ls (lv_sub hl [1, 2, 3, 4, 5, 0] rfl) hf
set_option maxHeartbeats 4000000 in
set_option maxRecDepth 100000 in
theorem w_X12_findFar_l40 {p : Program} {l : Launch} {e : Env} {s : State} {m : MethodId} {args : Array Value} {below : List Frame} {meth : Method} {c : Code} {D : va_G} {g : Nat → ClassId} {a : Nat → Nat} (C : Cx p s m args meth c cX12_findFar 9 none RX12 D (tyL g)) (hJ : Inj a 18) (N : Nat) (x2 : Int32) (x3 : Int32) (x4 : Int32) (M' : Mem) :
    ∀ (n : Nat) (M : Mem) (x5 : Int32), ∀ (H : Heap) (locs : List Loc), va_P D clL (wM g a M) H → va_S (inA a 18) s.heap H locs → ∀ (ls : Array Slot), lv_has ls 9 [(0, .ref (a 0)), (2, .int x2), (3, .int x3), (4, .int x4), (5, .int x5)] → f_X12_findFar_l40 N x2 x3 x4 n M x5 = some M' → W p l e (rmv 3 72) s m args below meth c H locs 0 0 (MQ below (WvQ D (wM g a M') (inA a 18)) args s 0 0 (inA a 18)) (F0 m 40 ls []) := by
  obtain ⟨hx, hb, hr, hml, hown, ht, hlocks, hK, hN⟩ := id C
  intro n
  induction n with
  | zero =>
    intro M x5 H locs hP hS ls hl hf
    exact nos hf
  | succ n ih =>
    intro M x5 H locs hP hS ls hl hf
    rw [f_X12_findFar_l40] at hf
    refine lv_iload hx hb dX12_findFar_40 (lv_at hl 4 rfl) ?_
    refine lv_aload_n hx hb dX12_findFar_42 rfl (lv_at hl 0 rfl) ?_
    obtain ⟨r3, e_3, hf⟩ := bns hf
    refine kR (rV (rest := [.int x5]) C (c_X12_all l D g a M r3 e_3) ok_X12_all wd_842 hP 0 (aM_0 g a M) rfl ⟨rfl, rfl, Nat.le_of_ble_eq_true rfl, Nat.le_of_ble_eq_true rfl⟩ rfl hl.1 rfl (Nat.le_of_ble_eq_true rfl) dX12_findFar_43 ⟨Nat.le_of_ble_eq_true rfl, Nat.le_of_ble_eq_true rfl⟩) ?_
    refine lv_icmp_ge (tgt := 155) hx hb dX12_findFar_46 (by decide) (fun c_4 => ?_) (fun c_4 => ?_)
    · have hf := ifp c_4 hf
      obtain rfl := Option.some.inj hf
      exact retWv C hP hS dX12_findFar_155
    · have hf := ifn c_4 hf
      refine lv_iconst (v := 0) hx hb dX12_findFar_49 (by decide) ?_
      refine lv_istore (lv' := [(6, .int 0), (0, .ref (a 0)), (2, .int x2), (3, .int x3), (4, .int x4), (5, .int x5)]) hx hb dX12_findFar_50 hl (by decide) rfl (fun ls hl => ?_)
      refine w_X12_findFar_l52 C hJ N x2 x3 x4 x5 M' _ (fun M18 H locs hP hS ls hl hf => ?_) N M 0 H locs hP hS ls (lv_sub hl [1, 2, 3, 4, 5, 0] rfl) hf
      refine lv_iinc (v := (x5 + 1)) (lv' := [(5, .int (x5 + 1)), (0, .ref (a 0)), (2, .int x2), (3, .int x3), (4, .int x4)]) hx hb dX12_findFar_149 hl (k := 4) rfl rfl (by decide) rfl (fun ls hl => ?_)
      refine lv_goto (tgt := 40) hx hb dX12_findFar_152 (by decide) ?_
      exact ih M18 (x5 + 1) H locs hP hS ls (lv_sub hl [1, 2, 3, 4, 0] rfl) hf
set_option maxHeartbeats 4000000 in
set_option maxRecDepth 100000 in
theorem w_X12_findFar_l3 {p : Program} {l : Launch} {e : Env} {s : State} {m : MethodId} {args : Array Value} {below : List Frame} {meth : Method} {c : Code} {D : va_G} {g : Nat → ClassId} {a : Nat → Nat} (C : Cx p s m args meth c cX12_findFar 9 none RX12 D (tyL g)) (hJ : Inj a 18) (N : Nat) (x1 : Int32) (x2 : Int32) (x3 : Int32) (x4 : Int32) (M' : Mem) :
    ∀ (n : Nat) (M : Mem) (x5 : Int32), ∀ (H : Heap) (locs : List Loc), va_P D clL (wM g a M) H → va_S (inA a 18) s.heap H locs → ∀ (ls : Array Slot), lv_has ls 9 [(0, .ref (a 0)), (1, .int x1), (2, .int x2), (3, .int x3), (4, .int x4), (5, .int x5)] → f_X12_findFar_l3 N x1 x2 x3 x4 n M x5 = some M' → W p l e (rmv 3 72) s m args below meth c H locs 0 0 (MQ below (WvQ D (wM g a M') (inA a 18)) args s 0 0 (inA a 18)) (F0 m 3 ls []) := by
  obtain ⟨hx, hb, hr, hml, hown, ht, hlocks, hK, hN⟩ := id C
  intro n
  induction n with
  | zero =>
    intro M x5 H locs hP hS ls hl hf
    exact nos hf
  | succ n ih =>
    intro M x5 H locs hP hS ls hl hf
    rw [f_X12_findFar_l3] at hf
    refine lv_iload hx hb dX12_findFar_3 (lv_at hl 5 rfl) ?_
    refine lv_aload_n hx hb dX12_findFar_5 rfl (lv_at hl 0 rfl) ?_
    obtain ⟨r1, e_1, hf⟩ := bns hf
    refine kR (rV (rest := [.int x5]) C (c_X12_all l D g a M r1 e_1) ok_X12_all wd_842 hP 0 (aM_0 g a M) rfl ⟨rfl, rfl, Nat.le_of_ble_eq_true rfl, Nat.le_of_ble_eq_true rfl⟩ rfl hl.1 rfl (Nat.le_of_ble_eq_true rfl) dX12_findFar_6 ⟨Nat.le_of_ble_eq_true rfl, Nat.le_of_ble_eq_true rfl⟩) ?_
    refine lv_icmp_ge (tgt := 37) hx hb dX12_findFar_9 (by decide) (fun c_2 => ?_) (fun c_2 => ?_)
    · have hf := ifp c_2 hf
      refine lv_iconst (v := 0) hx hb dX12_findFar_37 (by decide) ?_
      refine lv_istore (lv' := [(5, .int 0), (0, .ref (a 0)), (1, .int x1), (2, .int x2), (3, .int x3), (4, .int x4)]) hx hb dX12_findFar_38 hl (by decide) rfl (fun ls hl => ?_)
      exact w_X12_findFar_l40 C hJ N x2 x3 x4 M' N M 0 H locs hP hS ls (lv_sub hl [1, 3, 4, 5, 0] rfl) hf
    · have hf := ifn c_2 hf
      refine lv_aload_n hx hb dX12_findFar_12 rfl (lv_at hl 0 rfl) ?_
      refine fg_X12_40 C hP dX12_findFar_13 ?_
      refine lv_iload hx hb dX12_findFar_16 (lv_at hl 5 rfl) ?_
      refine lv_iload hx hb dX12_findFar_18 (lv_at hl 5 rfl) ?_
      refine lv_iload_n hx hb dX12_findFar_20 rfl (lv_at hl 1 rfl) ?_
      refine lv_icmp_ne (tgt := 28) hx hb dX12_findFar_21 (by decide) (fun c_19 => ?_) (fun c_19 => ?_)
      · have hf := ifn c_19 hf
        refine lv_ldc hx hb hown (ht _ wd_889) dX12_findFar_28 ?_
        obtain ⟨h_20, hf⟩ := ifs hf
        refine ast (wM g a) C hP (wM_D hJ) hS 11 0 (aM_11 g a M) rfl (sM_11 g a M) h_20 dX12_findFar_30 (fun H locs hP hS => ?_)
        obtain ⟨M21, eM21, hf⟩ := nms hf
        have hP : va_P D clL (wM g a M21) H := by rw [eM21]; exact hP
        refine lv_iinc (v := (x5 + 1)) (lv' := [(5, .int (x5 + 1)), (0, .ref (a 0)), (1, .int x1), (2, .int x2), (3, .int x3), (4, .int x4)]) hx hb dX12_findFar_31 hl (k := 5) rfl rfl (by decide) rfl (fun ls hl => ?_)
        refine lv_goto (tgt := 3) hx hb dX12_findFar_34 (by decide) ?_
        exact ih M21 (x5 + 1) H locs hP hS ls (lv_sub hl [1, 2, 3, 4, 5, 0] rfl) hf
      · have hf := ifp c_19 hf
        refine lv_iconst (v := 0) hx hb dX12_findFar_24 (by decide) ?_
        refine lv_goto (tgt := 30) hx hb dX12_findFar_25 (by decide) ?_
        obtain ⟨h_22, hf⟩ := ifs hf
        refine ast (wM g a) C hP (wM_D hJ) hS 11 0 (aM_11 g a M) rfl (sM_11 g a M) h_22 dX12_findFar_30 (fun H locs hP hS => ?_)
        obtain ⟨M23, eM23, hf⟩ := nms hf
        have hP : va_P D clL (wM g a M23) H := by rw [eM23]; exact hP
        refine lv_iinc (v := (x5 + 1)) (lv' := [(5, .int (x5 + 1)), (0, .ref (a 0)), (1, .int x1), (2, .int x2), (3, .int x3), (4, .int x4)]) hx hb dX12_findFar_31 hl (k := 5) rfl rfl (by decide) rfl (fun ls hl => ?_)
        refine lv_goto (tgt := 3) hx hb dX12_findFar_34 (by decide) ?_
        exact ih M23 (x5 + 1) H locs hP hS ls (lv_sub hl [1, 2, 3, 4, 5, 0] rfl) hf
set_option maxHeartbeats 4000000 in
set_option maxRecDepth 100000 in
theorem c_X12_findFar (l : Launch) (D : va_G) (g : Nat → ClassId) (a : Nat → Nat) (hJ : Inj a 18) (N : Nat) (M : Mem) (x1 : Int32) (x2 : Int32) (x3 : Int32) (x4 : Int32) (M' : Mem) (hf : f_X12_findFar N M x1 x2 x3 x4 = some M') : Met l yX12_findFar (cW yX12_findFar cX12_findFar 9 none) (rmv 3 72) (Pw D (tyL g) (wM g a M) [.ref (a 0), .int x1, .int x2, .int x3, .int x4]) (WvQ D (wM g a M') (inA a 18)) 0 0 (inA a 18) := by
  unfold f_X12_findFar at hf
  refine met_inW (A := (inA a 18)) (by decide) (Nat.le_of_ble_eq_true rfl) ?_
  intro p e s m args below meth c ls H locs C hP hS hl
  have C : Cx p s m args meth c cX12_findFar 9 none RX12 D (tyL g) := C
  obtain ⟨hx, hb, hr, hml, hown, ht, hlocks, hK, hN⟩ := id C
  have hl : lv_has ls 9 [(0, .ref (a 0)), (1, .int x1), (2, .int x2), (3, .int x3), (4, .int x4)] := hl
  refine lv_iconst (v := 0) hx hb dX12_findFar_0 (by decide) ?_
  refine lv_istore (lv' := [(5, .int 0), (0, .ref (a 0)), (1, .int x1), (2, .int x2), (3, .int x3), (4, .int x4)]) hx hb dX12_findFar_1 hl (by decide) rfl (fun ls hl => ?_)
  exact w_X12_findFar_l3 C hJ N x1 x2 x3 x4 M' N M 0 H locs hP hS ls (lv_sub hl [1, 2, 3, 4, 5, 0] rfl) hf
set_option maxHeartbeats 4000000 in
set_option maxRecDepth 100000 in
theorem w_X12_way_l109 {p : Program} {l : Launch} {e : Env} {s : State} {m : MethodId} {args : Array Value} {below : List Frame} {meth : Method} {c : Code} {D : va_G} {g : Nat → ClassId} {a : Nat → Nat} (C : Cx p s m args meth c cX12_way 9 (some .int) RX12 D (tyL g)) (hJ : Inj a 18) (N : Nat) (M : Mem) (H : Heap) (locs : List Loc) (hP : va_P D clL (wM g a M) H) (hS : va_S (inA a 18) s.heap H locs) (x3 : Int32) (x4 : Int32) (x6 : Int32) (x5 : Int32) (x7 : Int32) (r : Int32) (M' : Mem) (kc : Int32 → Option (Int32 × Mem)) (hkc : ∀ (y8 : Int32), ∀ (ls : Array Slot), lv_has ls 9 [(0, .ref (a 0)), (3, .int x3), (4, .int x4), (5, .int x5), (6, .int x6), (7, .int x7), (8, .int y8)] → kc y8 = some (r, M') → W p l e (rmv 4 100) s m args below meth c H locs 0 0 (MQ below (WrQ D (wM g a M') (inA a 18) (.int r)) args s 0 0 (inA a 18)) (F0 m 174 ls [])) :
    ∀ (n : Nat) (x8 : Int32), ∀ (ls : Array Slot), lv_has ls 9 [(0, .ref (a 0)), (3, .int x3), (4, .int x4), (5, .int x5), (6, .int x6), (7, .int x7), (8, .int x8)] → f_X12_way_l109 kc N M x3 x4 x6 n x8 = some (r, M') → W p l e (rmv 4 100) s m args below meth c H locs 0 0 (MQ below (WrQ D (wM g a M') (inA a 18) (.int r)) args s 0 0 (inA a 18)) (F0 m 109 ls []) := by
  obtain ⟨hx, hb, hr, hml, hown, ht, hlocks, hK, hN⟩ := id C
  intro n
  induction n with
  | zero =>
    intro x8 ls hl hf
    exact nos hf
  | succ n ih =>
    intro x8 ls hl hf
    rw [f_X12_way_l109] at hf
    refine lv_aload_n hx hb dX12_way_109 rfl (lv_at hl 0 rfl) ?_
    refine lv_iload hx hb dX12_way_110 (lv_at hl 4 rfl) ?_
    refine lv_iload hx hb dX12_way_112 (lv_at hl 6 rfl) ?_
    obtain ⟨r16, e_16, hf⟩ := bns hf
    refine kR (rV (rest := []) C (c_X12_beside l D g a M x6 x8 r16 e_16) ok_X12_beside wd_890 hP 0 (aM_0 g a M) rfl ⟨rfl, rfl, Nat.le_of_ble_eq_true rfl, Nat.le_of_ble_eq_true rfl⟩ rfl hl.1 rfl (Nat.le_of_ble_eq_true rfl) dX12_way_114 ⟨Nat.le_of_ble_eq_true rfl, Nat.le_of_ble_eq_true rfl⟩) ?_
    refine lv_bipush (v := (-9)) hx hb dX12_way_117 (by decide) ?_
    refine lv_icmp_eq (tgt := 168) hx hb dX12_way_119 (by decide) (fun c_17 => ?_) (fun c_17 => ?_)
    · have hf := ifp c_17 hf
      refine lv_iinc (v := (x8 + 1)) (lv' := [(8, .int (x8 + 1)), (0, .ref (a 0)), (3, .int x3), (4, .int x4), (5, .int x5), (6, .int x6), (7, .int x7)]) hx hb dX12_way_168 hl (k := 6) rfl rfl (by decide) rfl (fun ls hl => ?_)
      refine lv_goto (tgt := 109) hx hb dX12_way_171 (by decide) ?_
      exact ih (x8 + 1) ls (lv_sub hl [1, 2, 3, 4, 5, 6, 0] rfl) hf
    · have hf := ifn c_17 hf
      refine lv_aload_n hx hb dX12_way_122 rfl (lv_at hl 0 rfl) ?_
      refine fg_X12_40 C hP dX12_way_123 ?_
      refine lv_aload_n hx hb dX12_way_126 rfl (lv_at hl 0 rfl) ?_
      refine lv_iload hx hb dX12_way_127 (lv_at hl 4 rfl) ?_
      refine lv_iload hx hb dX12_way_129 (lv_at hl 6 rfl) ?_
      obtain ⟨r18, e_18, hf⟩ := bns hf
      refine kR (rV (rest := [.ref (a 11)]) C (c_X12_beside l D g a M x6 x8 r18 e_18) ok_X12_beside wd_890 hP 0 (aM_0 g a M) rfl ⟨rfl, rfl, Nat.le_of_ble_eq_true rfl, Nat.le_of_ble_eq_true rfl⟩ rfl hl.1 rfl (Nat.le_of_ble_eq_true rfl) dX12_way_131 ⟨Nat.le_of_ble_eq_true rfl, Nat.le_of_ble_eq_true rfl⟩) ?_
      obtain ⟨h_19, hf⟩ := ifs hf
      refine va_iald hx hb hK hP 11 0 (aM_11 g a M) rfl h_19 dX12_way_134 ?_
      refine lv_aload_n hx hb dX12_way_135 rfl (lv_at hl 0 rfl) ?_
      refine fg_X12_40 C hP dX12_way_136 ?_
      refine lv_iload hx hb dX12_way_139 (lv_at hl 4 rfl) ?_
      obtain ⟨h_20, hf⟩ := ifs hf
      refine va_iald hx hb hK hP 11 0 (aM_11 g a M) rfl h_20 dX12_way_141 ?_
      refine lv_iconst (v := 1) hx hb dX12_way_142 (by decide) ?_
      refine lv_isub hx hb dX12_way_143 ?_
      refine lv_icmp_ne (tgt := 168) hx hb dX12_way_144 (by decide) (fun c_21 => ?_) (fun c_21 => ?_)
      · have hf := ifn c_21 hf
        refine lv_iinc (v := (x8 + 1)) (lv' := [(8, .int (x8 + 1)), (0, .ref (a 0)), (3, .int x3), (4, .int x4), (5, .int x5), (6, .int x6), (7, .int x7)]) hx hb dX12_way_168 hl (k := 6) rfl rfl (by decide) rfl (fun ls hl => ?_)
        refine lv_goto (tgt := 109) hx hb dX12_way_171 (by decide) ?_
        exact ih (x8 + 1) ls (lv_sub hl [1, 2, 3, 4, 5, 6, 0] rfl) hf
      · have hf := ifp c_21 hf
        refine lv_aload_n hx hb dX12_way_147 rfl (lv_at hl 0 rfl) ?_
        refine lv_iload hx hb dX12_way_148 (lv_at hl 4 rfl) ?_
        refine lv_aload_n hx hb dX12_way_150 rfl (lv_at hl 0 rfl) ?_
        refine lv_iload hx hb dX12_way_151 (lv_at hl 4 rfl) ?_
        refine lv_iload hx hb dX12_way_153 (lv_at hl 6 rfl) ?_
        obtain ⟨r22, e_22, hf⟩ := bns hf
        refine kR (rV (rest := [.int x6, .ref (a 0)]) C (c_X12_beside l D g a M x6 x8 r22 e_22) ok_X12_beside wd_890 hP 0 (aM_0 g a M) rfl ⟨rfl, rfl, Nat.le_of_ble_eq_true rfl, Nat.le_of_ble_eq_true rfl⟩ rfl hl.1 rfl (Nat.le_of_ble_eq_true rfl) dX12_way_155 ⟨Nat.le_of_ble_eq_true rfl, Nat.le_of_ble_eq_true rfl⟩) ?_
        refine lv_iload_n hx hb dX12_way_158 rfl (lv_at hl 1 rfl) ?_
        refine lv_iload_n hx hb dX12_way_159 rfl (lv_at hl 1 rfl) ?_
        refine lv_iload hx hb dX12_way_160 (lv_at hl 2 rfl) ?_
        obtain ⟨r23, e_23, hf⟩ := bns hf
        refine kR (rV (rest := []) C (c_X12_isStep l D g a N M x6 r22 x3 x3 x4 r23 e_23) ok_X12_isStep wd_894 hP 0 (aM_0 g a M) rfl ⟨rfl, rfl, Nat.le_of_ble_eq_true rfl, Nat.le_of_ble_eq_true rfl⟩ rfl hl.1 rfl (Nat.le_of_ble_eq_true rfl) dX12_way_162 ⟨Nat.le_of_ble_eq_true rfl, Nat.le_of_ble_eq_true rfl⟩) ?_
        refine lv_if_ne (tgt := 174) hx hb dX12_way_165 (by decide) (fun c_24 => ?_) (fun c_24 => ?_)
        · have hf := ifn c_24 hf
          exact hkc x8 ls (lv_sub hl [0, 1, 2, 3, 4, 5, 6] rfl) hf
        · have hf := ifp c_24 hf
          refine lv_iinc (v := (x8 + 1)) (lv' := [(8, .int (x8 + 1)), (0, .ref (a 0)), (3, .int x3), (4, .int x4), (5, .int x5), (6, .int x6), (7, .int x7)]) hx hb dX12_way_168 hl (k := 6) rfl rfl (by decide) rfl (fun ls hl => ?_)
          refine lv_goto (tgt := 109) hx hb dX12_way_171 (by decide) ?_
          exact ih (x8 + 1) ls (lv_sub hl [1, 2, 3, 4, 5, 6, 0] rfl) hf
set_option maxHeartbeats 4000000 in
set_option maxRecDepth 100000 in
theorem w_X12_way_l99 {p : Program} {l : Launch} {e : Env} {s : State} {m : MethodId} {args : Array Value} {below : List Frame} {meth : Method} {c : Code} {D : va_G} {g : Nat → ClassId} {a : Nat → Nat} (C : Cx p s m args meth c cX12_way 9 (some .int) RX12 D (tyL g)) (hJ : Inj a 18) (N : Nat) (M : Mem) (H : Heap) (locs : List Loc) (hP : va_P D clL (wM g a M) H) (hS : va_S (inA a 18) s.heap H locs) (x3 : Int32) (x4 : Int32) (x5 : Int32) (r : Int32) (M' : Mem) :
    ∀ (n : Nat) (x6 : Int32) (x7 : Int32), ∀ (ls : Array Slot), lv_has ls 9 [(0, .ref (a 0)), (3, .int x3), (4, .int x4), (5, .int x5), (6, .int x6), (7, .int x7)] → f_X12_way_l99 N M x3 x4 x5 n x6 x7 = some (r, M') → W p l e (rmv 4 100) s m args below meth c H locs 0 0 (MQ below (WrQ D (wM g a M') (inA a 18) (.int r)) args s 0 0 (inA a 18)) (F0 m 99 ls []) := by
  obtain ⟨hx, hb, hr, hml, hown, ht, hlocks, hK, hN⟩ := id C
  intro n
  induction n with
  | zero =>
    intro x6 x7 ls hl hf
    exact nos hf
  | succ n ih =>
    intro x6 x7 ls hl hf
    rw [f_X12_way_l99] at hf
    refine lv_iload hx hb dX12_way_99 (lv_at hl 5 rfl) ?_
    refine lv_iload hx hb dX12_way_101 (lv_at hl 3 rfl) ?_
    refine lv_icmp_ge (tgt := 190) hx hb dX12_way_103 (by decide) (fun c_15 => ?_) (fun c_15 => ?_)
    · have hf := ifp c_15 hf
      refine lv_iload hx hb dX12_way_190 (lv_at hl 4 rfl) ?_
      obtain ⟨rfl, rfl⟩ := Prod.mk.inj (Option.some.inj hf)
      exact retW C hP hS dX12_way_192
    · have hf := ifn c_15 hf
      refine lv_iconst (v := 0) hx hb dX12_way_106 (by decide) ?_
      refine lv_istore (lv' := [(8, .int 0), (0, .ref (a 0)), (3, .int x3), (4, .int x4), (5, .int x5), (6, .int x6), (7, .int x7)]) hx hb dX12_way_107 hl (by decide) rfl (fun ls hl => ?_)
      refine w_X12_way_l109 C hJ N M H locs hP hS x3 x4 x6 x5 x7 r M' _ (fun y8_25 ls hl hf => ?_) N 0 ls (lv_sub hl [1, 2, 3, 4, 5, 6, 0] rfl) hf
      refine lv_aload_n hx hb dX12_way_174 rfl (lv_at hl 0 rfl) ?_
      refine lv_iload hx hb dX12_way_175 (lv_at hl 4 rfl) ?_
      refine lv_iload hx hb dX12_way_177 (lv_at hl 6 rfl) ?_
      obtain ⟨r26, e_26, hf⟩ := bns hf
      refine kR (rV (rest := []) C (c_X12_beside l D g a M x6 y8_25 r26 e_26) ok_X12_beside wd_890 hP 0 (aM_0 g a M) rfl ⟨rfl, rfl, Nat.le_of_ble_eq_true rfl, Nat.le_of_ble_eq_true rfl⟩ rfl hl.1 rfl (Nat.le_of_ble_eq_true rfl) dX12_way_179 ⟨Nat.le_of_ble_eq_true rfl, Nat.le_of_ble_eq_true rfl⟩) ?_
      refine lv_istore (lv' := [(6, .int r26), (0, .ref (a 0)), (3, .int x3), (4, .int x4), (5, .int x5), (7, .int x7), (8, .int y8_25)]) hx hb dX12_way_182 hl (by decide) rfl (fun ls hl => ?_)
      refine lv_iinc (v := (x7 + 1)) (lv' := [(7, .int (x7 + 1)), (6, .int r26), (0, .ref (a 0)), (3, .int x3), (4, .int x4), (5, .int x5), (8, .int y8_25)]) hx hb dX12_way_184 hl (k := 5) rfl rfl (by decide) rfl (fun ls hl => ?_)
      refine lv_goto (tgt := 99) hx hb dX12_way_187 (by decide) ?_
      exact ih r26 (x7 + 1) ls (lv_sub hl [2, 3, 4, 5, 1, 0] rfl) hf
set_option maxHeartbeats 4000000 in
set_option maxRecDepth 100000 in
theorem c_X12_way (l : Launch) (D : va_G) (g : Nat → ClassId) (a : Nat → Nat) (hJ : Inj a 18) (N : Nat) (M : Mem) (x1 : Int32) (x2 : Int32) (x3 : Int32) (x4 : Int32) (x5 : Int32) (r : Int32) (M' : Mem) (hf : f_X12_way N M x1 x2 x3 x4 x5 = some (r, M')) : Met l yX12_way (cW yX12_way cX12_way 9 (some .int)) (rmv 4 100) (Pw D (tyL g) (wM g a M) [.ref (a 0), .int x1, .int x2, .int x3, .int x4, .int x5]) (WrQ D (wM g a M') (inA a 18) (.int r)) 0 0 (inA a 18) := by
  unfold f_X12_way at hf
  refine met_inW (A := (inA a 18)) (by decide) (Nat.le_of_ble_eq_true rfl) ?_
  intro p e s m args below meth c ls H locs C hP hS hl
  have C : Cx p s m args meth c cX12_way 9 (some .int) RX12 D (tyL g) := C
  obtain ⟨hx, hb, hr, hml, hown, ht, hlocks, hK, hN⟩ := id C
  have hl : lv_has ls 9 [(0, .ref (a 0)), (1, .int x1), (2, .int x2), (3, .int x3), (4, .int x4), (5, .int x5)] := hl
  refine lv_aload_n hx hb dX12_way_0 rfl (lv_at hl 0 rfl) ?_
  refine lv_iload_n hx hb dX12_way_1 rfl (lv_at hl 1 rfl) ?_
  obtain ⟨r1, e_1, hf⟩ := bns hf
  refine kR (rV (rest := []) C (c_X12_isStone l D g a M x1 r1 e_1) ok_X12_isStone wd_850 hP 0 (aM_0 g a M) rfl ⟨rfl, rfl, Nat.le_of_ble_eq_true rfl, Nat.le_of_ble_eq_true rfl⟩ rfl hl.1 rfl (Nat.le_of_ble_eq_true rfl) dX12_way_2 ⟨Nat.le_of_ble_eq_true rfl, Nat.le_of_ble_eq_true rfl⟩) ?_
  refine lv_if_eq (tgt := 29) hx hb dX12_way_5 (by decide) (fun c_2 => ?_) (fun c_2 => ?_)
  · have hf := ifp c_2 hf
    refine lv_iconst (v := (-1)) hx hb dX12_way_29 (by decide) ?_
    obtain ⟨rfl, rfl⟩ := Prod.mk.inj (Option.some.inj hf)
    exact retW C hP hS dX12_way_30
  · have hf := ifn c_2 hf
    refine lv_aload_n hx hb dX12_way_8 rfl (lv_at hl 0 rfl) ?_
    refine lv_iload_n hx hb dX12_way_9 rfl (lv_at hl 2 rfl) ?_
    obtain ⟨r3, e_3, hf⟩ := bns hf
    refine kR (rV (rest := []) C (c_X12_isStone l D g a M x2 r3 e_3) ok_X12_isStone wd_850 hP 0 (aM_0 g a M) rfl ⟨rfl, rfl, Nat.le_of_ble_eq_true rfl, Nat.le_of_ble_eq_true rfl⟩ rfl hl.1 rfl (Nat.le_of_ble_eq_true rfl) dX12_way_10 ⟨Nat.le_of_ble_eq_true rfl, Nat.le_of_ble_eq_true rfl⟩) ?_
    refine lv_if_eq (tgt := 29) hx hb dX12_way_13 (by decide) (fun c_4 => ?_) (fun c_4 => ?_)
    · have hf := ifp c_4 hf
      refine lv_iconst (v := (-1)) hx hb dX12_way_29 (by decide) ?_
      obtain ⟨rfl, rfl⟩ := Prod.mk.inj (Option.some.inj hf)
      exact retW C hP hS dX12_way_30
    · have hf := ifn c_4 hf
      refine lv_iload_n hx hb dX12_way_16 rfl (lv_at hl 3 rfl) ?_
      obtain ⟨r5, e_5, hf⟩ := bns hf
      refine kR (rS (rest := []) C (c_X12_isMonth l D (tyL g) (wM g a M) x3 r5 e_5) ok_X12_isMonth wd_858 hP ⟨rfl, rfl, Nat.le_of_ble_eq_true rfl, Nat.le_of_ble_eq_true rfl⟩ rfl hl.1 rfl (Nat.le_of_ble_eq_true rfl) dX12_way_17 ⟨Nat.le_of_ble_eq_true rfl, Nat.le_of_ble_eq_true rfl⟩) ?_
      refine lv_if_eq (tgt := 29) hx hb dX12_way_20 (by decide) (fun c_6 => ?_) (fun c_6 => ?_)
      · have hf := ifp c_6 hf
        refine lv_iconst (v := (-1)) hx hb dX12_way_29 (by decide) ?_
        obtain ⟨rfl, rfl⟩ := Prod.mk.inj (Option.some.inj hf)
        exact retW C hP hS dX12_way_30
      · have hf := ifn c_6 hf
        refine lv_iload hx hb dX12_way_23 (lv_at hl 5 rfl) ?_
        refine lv_iconst (v := (-1)) hx hb dX12_way_25 (by decide) ?_
        refine lv_icmp_ge (tgt := 31) hx hb dX12_way_26 (by decide) (fun c_7 => ?_) (fun c_7 => ?_)
        · have hf := ifp c_7 hf
          refine lv_iload hx hb dX12_way_31 (lv_at hl 4 rfl) ?_
          refine lv_iconst (v := 0) hx hb dX12_way_33 (by decide) ?_
          refine lv_sipush (v := 999) hx hb dX12_way_34 (by decide) ?_
          obtain ⟨r8, e_8, hf⟩ := bns hf
          refine kR (rS (rest := []) C (c_X12_within l D (tyL g) (wM g a M) x4 0 999 r8 e_8) ok_X12_within wd_816 hP ⟨rfl, rfl, Nat.le_of_ble_eq_true rfl, Nat.le_of_ble_eq_true rfl⟩ rfl hl.1 rfl (Nat.le_of_ble_eq_true rfl) dX12_way_37 ⟨Nat.le_of_ble_eq_true rfl, Nat.le_of_ble_eq_true rfl⟩) ?_
          refine lv_if_ne (tgt := 46) hx hb dX12_way_40 (by decide) (fun c_9 => ?_) (fun c_9 => ?_)
          · have hf := ifn c_9 hf
            refine lv_aload_n hx hb dX12_way_46 rfl (lv_at hl 0 rfl) ?_
            refine lv_iload_n hx hb dX12_way_47 rfl (lv_at hl 2 rfl) ?_
            refine lv_iload_n hx hb dX12_way_48 rfl (lv_at hl 3 rfl) ?_
            refine lv_iload_n hx hb dX12_way_49 rfl (lv_at hl 3 rfl) ?_
            refine lv_iload hx hb dX12_way_50 (lv_at hl 4 rfl) ?_
            obtain ⟨M10, e_10, hf⟩ := bns hf
            refine kWv (rV (rest := []) C (c_X12_findFar l D g a hJ N M x2 x3 x3 x4 M10 e_10) ok_X12_findFar wd_885 hP 0 (aM_0 g a M) rfl ⟨rfl, rfl, Nat.le_of_ble_eq_true rfl, Nat.le_of_ble_eq_true rfl⟩ rfl hl.1 rfl (Nat.le_of_ble_eq_true rfl) dX12_way_52 ⟨Nat.le_of_ble_eq_true rfl, Nat.le_of_ble_eq_true rfl⟩) hS (fun H locs hP hS => ?_)
            refine lv_aload_n hx hb dX12_way_55 rfl (lv_at hl 0 rfl) ?_
            refine fg_X12_40 C hP dX12_way_56 ?_
            refine lv_iload_n hx hb dX12_way_59 rfl (lv_at hl 1 rfl) ?_
            obtain ⟨h_11, hf⟩ := ifs hf
            refine va_iald hx hb hK hP 11 0 (aM_11 g a M10) rfl h_11 dX12_way_60 ?_
            refine lv_ldc hx hb hown (ht _ wd_889) dX12_way_61 ?_
            refine lv_icmp_eq (tgt := 77) hx hb dX12_way_63 (by decide) (fun c_12 => ?_) (fun c_12 => ?_)
            · have hf := ifp c_12 hf
              refine lv_bipush (v := (-9)) hx hb dX12_way_77 (by decide) ?_
              obtain ⟨rfl, rfl⟩ := Prod.mk.inj (Option.some.inj hf)
              exact retW C hP hS dX12_way_79
            · have hf := ifn c_12 hf
              refine lv_iload hx hb dX12_way_66 (lv_at hl 5 rfl) ?_
              refine lv_aload_n hx hb dX12_way_68 rfl (lv_at hl 0 rfl) ?_
              refine fg_X12_40 C hP dX12_way_69 ?_
              refine lv_iload_n hx hb dX12_way_72 rfl (lv_at hl 1 rfl) ?_
              refine va_iald hx hb hK hP 11 0 (aM_11 g a M10) rfl h_11 dX12_way_73 ?_
              refine lv_icmp_le (tgt := 80) hx hb dX12_way_74 (by decide) (fun c_13 => ?_) (fun c_13 => ?_)
              · have hf := ifp c_13 hf
                refine lv_iload hx hb dX12_way_80 (lv_at hl 5 rfl) ?_
                refine lv_iconst (v := (-1)) hx hb dX12_way_82 (by decide) ?_
                refine lv_icmp_ne (tgt := 93) hx hb dX12_way_83 (by decide) (fun c_14 => ?_) (fun c_14 => ?_)
                · have hf := ifn c_14 hf
                  refine lv_iload_n hx hb dX12_way_93 rfl (lv_at hl 1 rfl) ?_
                  refine lv_istore (lv' := [(6, .int x1), (0, .ref (a 0)), (1, .int x1), (2, .int x2), (3, .int x3), (4, .int x4), (5, .int x5)]) hx hb dX12_way_94 hl (by decide) rfl (fun ls hl => ?_)
                  refine lv_iconst (v := 0) hx hb dX12_way_96 (by decide) ?_
                  refine lv_istore (lv' := [(7, .int 0), (6, .int x1), (0, .ref (a 0)), (1, .int x1), (2, .int x2), (3, .int x3), (4, .int x4), (5, .int x5)]) hx hb dX12_way_97 hl (by decide) rfl (fun ls hl => ?_)
                  exact w_X12_way_l99 C hJ N M10 H locs hP hS x3 x4 x5 r M' N x1 0 ls (lv_sub hl [2, 5, 6, 7, 1, 0] rfl) hf
                · have hf := ifp c_14 hf
                  refine lv_aload_n hx hb dX12_way_86 rfl (lv_at hl 0 rfl) ?_
                  refine fg_X12_40 C hP dX12_way_87 ?_
                  refine lv_iload_n hx hb dX12_way_90 rfl (lv_at hl 1 rfl) ?_
                  refine va_iald hx hb hK hP 11 0 (aM_11 g a M10) rfl h_11 dX12_way_91 ?_
                  obtain ⟨rfl, rfl⟩ := Prod.mk.inj (Option.some.inj hf)
                  exact retW C hP hS dX12_way_92
              · have hf := ifn c_13 hf
                refine lv_bipush (v := (-9)) hx hb dX12_way_77 (by decide) ?_
                obtain ⟨rfl, rfl⟩ := Prod.mk.inj (Option.some.inj hf)
                exact retW C hP hS dX12_way_79
          · have hf := ifp c_9 hf
            refine lv_bipush (v := (-2)) hx hb dX12_way_43 (by decide) ?_
            obtain ⟨rfl, rfl⟩ := Prod.mk.inj (Option.some.inj hf)
            exact retW C hP hS dX12_way_45
        · have hf := ifn c_7 hf
          refine lv_iconst (v := (-1)) hx hb dX12_way_29 (by decide) ?_
          obtain ⟨rfl, rfl⟩ := Prod.mk.inj (Option.some.inj hf)
          exact retW C hP hS dX12_way_30
set_option maxHeartbeats 4000000 in
set_option maxRecDepth 100000 in
theorem c_X12_holds (l : Launch) (D : va_G) (g : Nat → ClassId) (a : Nat → Nat) (hJ : Inj a 18) (N : Nat) (M : Mem) (x1 : Int32) (x2 : Int32) (x3 : Int32) (x4 : Int32) (x5 : Int32) (r : Int32) (M' : Mem) (hf : f_X12_holds N M x1 x2 x3 x4 x5 = some (r, M')) : Met l yX12_holds (cW yX12_holds cX12_holds 6 (some .int)) (rmv 4 100) (Pw D (tyL g) (wM g a M) [.ref (a 0), .int x1, .int x2, .int x3, .int x4, .int x5]) (WrQ D (wM g a M') (inA a 18) (.int r)) 0 0 (inA a 18) := by
  unfold f_X12_holds at hf
  refine met_inW (A := (inA a 18)) (by decide) (Nat.le_of_ble_eq_true rfl) ?_
  intro p e s m args below meth c ls H locs C hP hS hl
  have C : Cx p s m args meth c cX12_holds 6 (some .int) RX12 D (tyL g) := C
  obtain ⟨hx, hb, hr, hml, hown, ht, hlocks, hK, hN⟩ := id C
  have hl : lv_has ls 6 [(0, .ref (a 0)), (1, .int x1), (2, .int x2), (3, .int x3), (4, .int x4), (5, .int x5)] := hl
  refine lv_aload_n hx hb dX12_holds_0 rfl (lv_at hl 0 rfl) ?_
  refine lv_iload_n hx hb dX12_holds_1 rfl (lv_at hl 1 rfl) ?_
  obtain ⟨r1, e_1, hf⟩ := bns hf
  refine kR (rV (rest := []) C (c_X12_isStone l D g a M x1 r1 e_1) ok_X12_isStone wd_850 hP 0 (aM_0 g a M) rfl ⟨rfl, rfl, Nat.le_of_ble_eq_true rfl, Nat.le_of_ble_eq_true rfl⟩ rfl hl.1 rfl (Nat.le_of_ble_eq_true rfl) dX12_holds_2 ⟨Nat.le_of_ble_eq_true rfl, Nat.le_of_ble_eq_true rfl⟩) ?_
  refine lv_if_eq (tgt := 37) hx hb dX12_holds_5 (by decide) (fun c_2 => ?_) (fun c_2 => ?_)
  · have hf := ifp c_2 hf
    refine lv_iconst (v := (-1)) hx hb dX12_holds_37 (by decide) ?_
    obtain ⟨rfl, rfl⟩ := Prod.mk.inj (Option.some.inj hf)
    exact retW C hP hS dX12_holds_38
  · have hf := ifn c_2 hf
    refine lv_aload_n hx hb dX12_holds_8 rfl (lv_at hl 0 rfl) ?_
    refine lv_iload_n hx hb dX12_holds_9 rfl (lv_at hl 2 rfl) ?_
    obtain ⟨r3, e_3, hf⟩ := bns hf
    refine kR (rV (rest := []) C (c_X12_isStone l D g a M x2 r3 e_3) ok_X12_isStone wd_850 hP 0 (aM_0 g a M) rfl ⟨rfl, rfl, Nat.le_of_ble_eq_true rfl, Nat.le_of_ble_eq_true rfl⟩ rfl hl.1 rfl (Nat.le_of_ble_eq_true rfl) dX12_holds_10 ⟨Nat.le_of_ble_eq_true rfl, Nat.le_of_ble_eq_true rfl⟩) ?_
    refine lv_if_eq (tgt := 37) hx hb dX12_holds_13 (by decide) (fun c_4 => ?_) (fun c_4 => ?_)
    · have hf := ifp c_4 hf
      refine lv_iconst (v := (-1)) hx hb dX12_holds_37 (by decide) ?_
      obtain ⟨rfl, rfl⟩ := Prod.mk.inj (Option.some.inj hf)
      exact retW C hP hS dX12_holds_38
    · have hf := ifn c_4 hf
      refine lv_iload_n hx hb dX12_holds_16 rfl (lv_at hl 3 rfl) ?_
      obtain ⟨r5, e_5, hf⟩ := bns hf
      refine kR (rS (rest := []) C (c_X12_isMonth l D (tyL g) (wM g a M) x3 r5 e_5) ok_X12_isMonth wd_858 hP ⟨rfl, rfl, Nat.le_of_ble_eq_true rfl, Nat.le_of_ble_eq_true rfl⟩ rfl hl.1 rfl (Nat.le_of_ble_eq_true rfl) dX12_holds_17 ⟨Nat.le_of_ble_eq_true rfl, Nat.le_of_ble_eq_true rfl⟩) ?_
      refine lv_if_eq (tgt := 37) hx hb dX12_holds_20 (by decide) (fun c_6 => ?_) (fun c_6 => ?_)
      · have hf := ifp c_6 hf
        refine lv_iconst (v := (-1)) hx hb dX12_holds_37 (by decide) ?_
        obtain ⟨rfl, rfl⟩ := Prod.mk.inj (Option.some.inj hf)
        exact retW C hP hS dX12_holds_38
      · have hf := ifn c_6 hf
        refine lv_iload hx hb dX12_holds_23 (lv_at hl 4 rfl) ?_
        obtain ⟨r7, e_7, hf⟩ := bns hf
        refine kR (rS (rest := []) C (c_X12_isMonth l D (tyL g) (wM g a M) x4 r7 e_7) ok_X12_isMonth wd_858 hP ⟨rfl, rfl, Nat.le_of_ble_eq_true rfl, Nat.le_of_ble_eq_true rfl⟩ rfl hl.1 rfl (Nat.le_of_ble_eq_true rfl) dX12_holds_25 ⟨Nat.le_of_ble_eq_true rfl, Nat.le_of_ble_eq_true rfl⟩) ?_
        refine lv_if_eq (tgt := 37) hx hb dX12_holds_28 (by decide) (fun c_8 => ?_) (fun c_8 => ?_)
        · have hf := ifp c_8 hf
          refine lv_iconst (v := (-1)) hx hb dX12_holds_37 (by decide) ?_
          obtain ⟨rfl, rfl⟩ := Prod.mk.inj (Option.some.inj hf)
          exact retW C hP hS dX12_holds_38
        · have hf := ifn c_8 hf
          refine lv_iload hx hb dX12_holds_31 (lv_at hl 4 rfl) ?_
          refine lv_iload_n hx hb dX12_holds_33 rfl (lv_at hl 3 rfl) ?_
          refine lv_icmp_ge (tgt := 39) hx hb dX12_holds_34 (by decide) (fun c_9 => ?_) (fun c_9 => ?_)
          · have hf := ifp c_9 hf
            refine lv_iload hx hb dX12_holds_39 (lv_at hl 5 rfl) ?_
            refine lv_iconst (v := 0) hx hb dX12_holds_41 (by decide) ?_
            refine lv_sipush (v := 999) hx hb dX12_holds_42 (by decide) ?_
            obtain ⟨r10, e_10, hf⟩ := bns hf
            refine kR (rS (rest := []) C (c_X12_within l D (tyL g) (wM g a M) x5 0 999 r10 e_10) ok_X12_within wd_816 hP ⟨rfl, rfl, Nat.le_of_ble_eq_true rfl, Nat.le_of_ble_eq_true rfl⟩ rfl hl.1 rfl (Nat.le_of_ble_eq_true rfl) dX12_holds_45 ⟨Nat.le_of_ble_eq_true rfl, Nat.le_of_ble_eq_true rfl⟩) ?_
            refine lv_if_ne (tgt := 54) hx hb dX12_holds_48 (by decide) (fun c_11 => ?_) (fun c_11 => ?_)
            · have hf := ifn c_11 hf
              refine lv_aload_n hx hb dX12_holds_54 rfl (lv_at hl 0 rfl) ?_
              refine lv_iload_n hx hb dX12_holds_55 rfl (lv_at hl 2 rfl) ?_
              refine lv_iload_n hx hb dX12_holds_56 rfl (lv_at hl 3 rfl) ?_
              refine lv_iload hx hb dX12_holds_57 (lv_at hl 4 rfl) ?_
              refine lv_iload hx hb dX12_holds_59 (lv_at hl 5 rfl) ?_
              obtain ⟨M12, e_12, hf⟩ := bns hf
              refine kWv (rV (rest := []) C (c_X12_findFar l D g a hJ N M x2 x3 x4 x5 M12 e_12) ok_X12_findFar wd_885 hP 0 (aM_0 g a M) rfl ⟨rfl, rfl, Nat.le_of_ble_eq_true rfl, Nat.le_of_ble_eq_true rfl⟩ rfl hl.1 rfl (Nat.le_of_ble_eq_true rfl) dX12_holds_61 ⟨Nat.le_of_ble_eq_true rfl, Nat.le_of_ble_eq_true rfl⟩) hS (fun H locs hP hS => ?_)
              refine lv_aload_n hx hb dX12_holds_64 rfl (lv_at hl 0 rfl) ?_
              refine fg_X12_40 C hP dX12_holds_65 ?_
              refine lv_iload_n hx hb dX12_holds_68 rfl (lv_at hl 1 rfl) ?_
              obtain ⟨h_13, hf⟩ := ifs hf
              refine va_iald hx hb hK hP 11 0 (aM_11 g a M12) rfl h_13 dX12_holds_69 ?_
              refine lv_ldc hx hb hown (ht _ wd_889) dX12_holds_70 ?_
              refine lv_icmp_ne (tgt := 80) hx hb dX12_holds_72 (by decide) (fun c_14 => ?_) (fun c_14 => ?_)
              · have hf := ifn c_14 hf
                refine lv_aload_n hx hb dX12_holds_80 rfl (lv_at hl 0 rfl) ?_
                refine fg_X12_40 C hP dX12_holds_81 ?_
                refine lv_iload_n hx hb dX12_holds_84 rfl (lv_at hl 1 rfl) ?_
                refine va_iald hx hb hK hP 11 0 (aM_11 g a M12) rfl h_13 dX12_holds_85 ?_
                obtain ⟨rfl, rfl⟩ := Prod.mk.inj (Option.some.inj hf)
                exact retW C hP hS dX12_holds_86
              · have hf := ifp c_14 hf
                refine lv_bipush (v := (-9)) hx hb dX12_holds_75 (by decide) ?_
                refine lv_goto (tgt := 86) hx hb dX12_holds_77 (by decide) ?_
                obtain ⟨rfl, rfl⟩ := Prod.mk.inj (Option.some.inj hf)
                exact retW C hP hS dX12_holds_86
            · have hf := ifp c_11 hf
              refine lv_bipush (v := (-2)) hx hb dX12_holds_51 (by decide) ?_
              obtain ⟨rfl, rfl⟩ := Prod.mk.inj (Option.some.inj hf)
              exact retW C hP hS dX12_holds_53
          · have hf := ifn c_9 hf
            refine lv_iconst (v := (-1)) hx hb dX12_holds_37 (by decide) ?_
            obtain ⟨rfl, rfl⟩ := Prod.mk.inj (Option.some.inj hf)
            exact retW C hP hS dX12_holds_38
set_option maxHeartbeats 4000000 in
set_option maxRecDepth 100000 in
theorem w_X12_leastStep_l89 {p : Program} {l : Launch} {e : Env} {s : State} {m : MethodId} {args : Array Value} {below : List Frame} {meth : Method} {c : Code} {D : va_G} {g : Nat → ClassId} {a : Nat → Nat} (C : Cx p s m args meth c cX12_leastStep 10 (some .int) RX12 D (tyL g)) (hJ : Inj a 18) (N : Nat) (x3 : Int32) (x5 : Int32) (x1 : Int32) (x4 : Int32) (r : Int32) (M' : Mem) (kc : Mem → Option (Int32 × Mem)) (hkc : ∀ (M : Mem), ∀ (H : Heap) (locs : List Loc), va_P D clL (wM g a M) H → va_S (inA a 18) s.heap H locs → ∀ (ls : Array Slot), lv_has ls 10 [(0, .ref (a 0)), (1, .int x1), (3, .int x3), (4, .int x4), (5, .int x5)] → kc M = some (r, M') → W p l e (rmv 2 46) s m args below meth c H locs 0 0 (MQ below (WrQ D (wM g a M') (inA a 18) (.int r)) args s 0 0 (inA a 18)) (F0 m 195 ls [])) :
    ∀ (n : Nat) (M : Mem) (x6 : Int32), ∀ (H : Heap) (locs : List Loc), va_P D clL (wM g a M) H → va_S (inA a 18) s.heap H locs → ∀ (ls : Array Slot), lv_has ls 10 [(0, .ref (a 0)), (1, .int x1), (3, .int x3), (4, .int x4), (5, .int x5), (6, .int x6)] → f_X12_leastStep_l89 kc N x3 x5 n M x6 = some (r, M') → W p l e (rmv 2 46) s m args below meth c H locs 0 0 (MQ below (WrQ D (wM g a M') (inA a 18) (.int r)) args s 0 0 (inA a 18)) (F0 m 89 ls []) := by
  obtain ⟨hx, hb, hr, hml, hown, ht, hlocks, hK, hN⟩ := id C
  intro n
  induction n with
  | zero =>
    intro M x6 H locs hP hS ls hl hf
    exact nos hf
  | succ n ih =>
    intro M x6 H locs hP hS ls hl hf
    rw [f_X12_leastStep_l89] at hf
    refine lv_iload hx hb dX12_leastStep_89 (lv_at hl 5 rfl) ?_
    refine lv_iconst (v := 4) hx hb dX12_leastStep_91 (by decide) ?_
    refine lv_icmp_ge (tgt := 195) hx hb dX12_leastStep_92 (by decide) (fun c_14 => ?_) (fun c_14 => ?_)
    · have hf := ifp c_14 hf
      exact hkc M H locs hP hS ls (lv_sub hl [0, 1, 2, 3, 4] rfl) hf
    · have hf := ifn c_14 hf
      refine lv_aload_n hx hb dX12_leastStep_95 rfl (lv_at hl 0 rfl) ?_
      refine lv_iload hx hb dX12_leastStep_96 (lv_at hl 4 rfl) ?_
      refine lv_iload hx hb dX12_leastStep_98 (lv_at hl 5 rfl) ?_
      obtain ⟨r15, e_15, hf⟩ := bns hf
      refine kR (rV (rest := []) C (c_X12_beside l D g a M x5 x6 r15 e_15) ok_X12_beside wd_890 hP 0 (aM_0 g a M) rfl ⟨rfl, rfl, Nat.le_of_ble_eq_true rfl, Nat.le_of_ble_eq_true rfl⟩ rfl hl.1 rfl (Nat.le_of_ble_eq_true rfl) dX12_leastStep_100 ⟨Nat.le_of_ble_eq_true rfl, Nat.le_of_ble_eq_true rfl⟩) ?_
      refine lv_istore (lv' := [(7, .int r15), (0, .ref (a 0)), (1, .int x1), (3, .int x3), (4, .int x4), (5, .int x5), (6, .int x6)]) hx hb dX12_leastStep_103 hl (by decide) rfl (fun ls hl => ?_)
      refine lv_iload hx hb dX12_leastStep_105 (lv_at hl 0 rfl) ?_
      refine lv_bipush (v := (-9)) hx hb dX12_leastStep_107 (by decide) ?_
      refine lv_icmp_eq (tgt := 189) hx hb dX12_leastStep_109 (by decide) (fun c_16 => ?_) (fun c_16 => ?_)
      · have hf := ifp c_16 hf
        refine lv_iinc (v := (x6 + 1)) (lv' := [(6, .int (x6 + 1)), (7, .int r15), (0, .ref (a 0)), (1, .int x1), (3, .int x3), (4, .int x4), (5, .int x5)]) hx hb dX12_leastStep_189 hl (k := 6) rfl rfl (by decide) rfl (fun ls hl => ?_)
        refine lv_goto (tgt := 89) hx hb dX12_leastStep_192 (by decide) ?_
        exact ih M (x6 + 1) H locs hP hS ls (lv_sub hl [2, 3, 4, 5, 6, 0] rfl) hf
      · have hf := ifn c_16 hf
        refine lv_aload_n hx hb dX12_leastStep_112 rfl (lv_at hl 1 rfl) ?_
        refine lv_iload hx hb dX12_leastStep_113 (lv_at hl 5 rfl) ?_
        refine lv_iload_n hx hb dX12_leastStep_115 rfl (lv_at hl 3 rfl) ?_
        obtain ⟨r17, e_17, hf⟩ := bns hf
        refine kR (rV (rest := []) C (c_X12_heightOf l D g a M x5 x3 r17 e_17) ok_X12_heightOf wd_869 hP 0 (aM_0 g a M) rfl ⟨rfl, rfl, Nat.le_of_ble_eq_true rfl, Nat.le_of_ble_eq_true rfl⟩ rfl hl.1 rfl (Nat.le_of_ble_eq_true rfl) dX12_leastStep_116 ⟨Nat.le_of_ble_eq_true rfl, Nat.le_of_ble_eq_true rfl⟩) ?_
        refine lv_aload_n hx hb dX12_leastStep_119 rfl (lv_at hl 1 rfl) ?_
        refine lv_iload hx hb dX12_leastStep_120 (lv_at hl 0 rfl) ?_
        refine lv_iload_n hx hb dX12_leastStep_122 rfl (lv_at hl 3 rfl) ?_
        obtain ⟨r18, e_18, hf⟩ := bns hf
        refine kR (rV (rest := [.int r17]) C (c_X12_heightOf l D g a M r15 x3 r18 e_18) ok_X12_heightOf wd_869 hP 0 (aM_0 g a M) rfl ⟨rfl, rfl, Nat.le_of_ble_eq_true rfl, Nat.le_of_ble_eq_true rfl⟩ rfl hl.1 rfl (Nat.le_of_ble_eq_true rfl) dX12_leastStep_123 ⟨Nat.le_of_ble_eq_true rfl, Nat.le_of_ble_eq_true rfl⟩) ?_
        refine lv_isub hx hb dX12_leastStep_126 ?_
        obtain ⟨r19, e_19, hf⟩ := bns hf
        refine kR (rS (rest := []) C (c_X12_size l D (tyL g) (wM g a M) (r17 - r18) r19 e_19) ok_X12_size wd_898 hP ⟨rfl, rfl, Nat.le_of_ble_eq_true rfl, Nat.le_of_ble_eq_true rfl⟩ rfl hl.1 rfl (Nat.le_of_ble_eq_true rfl) dX12_leastStep_127 ⟨Nat.le_of_ble_eq_true rfl, Nat.le_of_ble_eq_true rfl⟩) ?_
        refine lv_istore (lv' := [(8, .int r19), (7, .int r15), (0, .ref (a 0)), (1, .int x1), (3, .int x3), (4, .int x4), (5, .int x5), (6, .int x6)]) hx hb dX12_leastStep_130 hl (by decide) rfl (fun ls hl => ?_)
        refine lv_aload_n hx hb dX12_leastStep_132 rfl (lv_at hl 2 rfl) ?_
        refine fg_X12_43 C hP dX12_leastStep_133 ?_
        refine lv_iload hx hb dX12_leastStep_136 (lv_at hl 1 rfl) ?_
        obtain ⟨h_20, hf⟩ := ifs hf
        refine va_iald hx hb hK hP 12 0 (aM_12 g a M) rfl h_20 dX12_leastStep_138 ?_
        refine lv_iload hx hb dX12_leastStep_139 (lv_at hl 0 rfl) ?_
        refine lv_icmp_le (tgt := 154) hx hb dX12_leastStep_141 (by decide) (fun c_21 => ?_) (fun c_21 => ?_)
        · have hf := ifp c_21 hf
          refine lv_iload hx hb dX12_leastStep_154 (lv_at hl 0 rfl) ?_
          refine lv_istore (lv' := [(9, .int r19), (8, .int r19), (7, .int r15), (0, .ref (a 0)), (1, .int x1), (3, .int x3), (4, .int x4), (5, .int x5), (6, .int x6)]) hx hb dX12_leastStep_156 hl (by decide) rfl (fun ls hl => ?_)
          refine lv_aload_n hx hb dX12_leastStep_158 rfl (lv_at hl 3 rfl) ?_
          refine fg_X12_43 C hP dX12_leastStep_159 ?_
          refine lv_iload hx hb dX12_leastStep_162 (lv_at hl 7 rfl) ?_
          refine lv_iload hx hb dX12_leastStep_164 (lv_at hl 0 rfl) ?_
          refine lv_aload_n hx hb dX12_leastStep_166 rfl (lv_at hl 3 rfl) ?_
          refine fg_X12_43 C hP dX12_leastStep_167 ?_
          refine lv_iload hx hb dX12_leastStep_170 (lv_at hl 7 rfl) ?_
          obtain ⟨h_22, hf⟩ := ifs hf
          refine va_iald hx hb hK hP 12 0 (aM_12 g a M) rfl h_22 dX12_leastStep_172 ?_
          refine lv_icmp_ge (tgt := 181) hx hb dX12_leastStep_173 (by decide) (fun c_23 => ?_) (fun c_23 => ?_)
          · have hf := ifp c_23 hf
            refine lv_aload_n hx hb dX12_leastStep_181 rfl (lv_at hl 3 rfl) ?_
            refine fg_X12_43 C hP dX12_leastStep_182 ?_
            refine lv_iload hx hb dX12_leastStep_185 (lv_at hl 7 rfl) ?_
            refine va_iald hx hb hK hP 12 0 (aM_12 g a M) rfl h_22 dX12_leastStep_187 ?_
            refine ast (wM g a) C hP (wM_D hJ) hS 12 0 (aM_12 g a M) rfl (sM_12 g a M) h_22 dX12_leastStep_188 (fun H locs hP hS => ?_)
            obtain ⟨M24, eM24, hf⟩ := nms hf
            have hP : va_P D clL (wM g a M24) H := by rw [eM24]; exact hP
            refine lv_iinc (v := (x6 + 1)) (lv' := [(6, .int (x6 + 1)), (9, .int r19), (8, .int r19), (7, .int r15), (0, .ref (a 0)), (1, .int x1), (3, .int x3), (4, .int x4), (5, .int x5)]) hx hb dX12_leastStep_189 hl (k := 8) rfl rfl (by decide) rfl (fun ls hl => ?_)
            refine lv_goto (tgt := 89) hx hb dX12_leastStep_192 (by decide) ?_
            exact ih M24 (x6 + 1) H locs hP hS ls (lv_sub hl [4, 5, 6, 7, 8, 0] rfl) hf
          · have hf := ifn c_23 hf
            refine lv_iload hx hb dX12_leastStep_176 (lv_at hl 0 rfl) ?_
            refine lv_goto (tgt := 188) hx hb dX12_leastStep_178 (by decide) ?_
            refine ast (wM g a) C hP (wM_D hJ) hS 12 0 (aM_12 g a M) rfl (sM_12 g a M) h_22 dX12_leastStep_188 (fun H locs hP hS => ?_)
            obtain ⟨M25, eM25, hf⟩ := nms hf
            have hP : va_P D clL (wM g a M25) H := by rw [eM25]; exact hP
            refine lv_iinc (v := (x6 + 1)) (lv' := [(6, .int (x6 + 1)), (9, .int r19), (8, .int r19), (7, .int r15), (0, .ref (a 0)), (1, .int x1), (3, .int x3), (4, .int x4), (5, .int x5)]) hx hb dX12_leastStep_189 hl (k := 8) rfl rfl (by decide) rfl (fun ls hl => ?_)
            refine lv_goto (tgt := 89) hx hb dX12_leastStep_192 (by decide) ?_
            exact ih M25 (x6 + 1) H locs hP hS ls (lv_sub hl [4, 5, 6, 7, 8, 0] rfl) hf
        · have hf := ifn c_21 hf
          refine lv_aload_n hx hb dX12_leastStep_144 rfl (lv_at hl 2 rfl) ?_
          refine fg_X12_43 C hP dX12_leastStep_145 ?_
          refine lv_iload hx hb dX12_leastStep_148 (lv_at hl 1 rfl) ?_
          refine va_iald hx hb hK hP 12 0 (aM_12 g a M) rfl h_20 dX12_leastStep_150 ?_
          refine lv_goto (tgt := 156) hx hb dX12_leastStep_151 (by decide) ?_
          refine lv_topi (fun z26 ez26 => ?_)
          have hf := nmr ez26 hf
          refine lv_istore (lv' := [(9, .int z26), (8, .int r19), (7, .int r15), (0, .ref (a 0)), (1, .int x1), (3, .int x3), (4, .int x4), (5, .int x5), (6, .int x6)]) hx hb dX12_leastStep_156 hl (by decide) rfl (fun ls hl => ?_)
          refine lv_aload_n hx hb dX12_leastStep_158 rfl (lv_at hl 3 rfl) ?_
          refine fg_X12_43 C hP dX12_leastStep_159 ?_
          refine lv_iload hx hb dX12_leastStep_162 (lv_at hl 7 rfl) ?_
          refine lv_iload hx hb dX12_leastStep_164 (lv_at hl 0 rfl) ?_
          refine lv_aload_n hx hb dX12_leastStep_166 rfl (lv_at hl 3 rfl) ?_
          refine fg_X12_43 C hP dX12_leastStep_167 ?_
          refine lv_iload hx hb dX12_leastStep_170 (lv_at hl 7 rfl) ?_
          obtain ⟨h_27, hf⟩ := ifs hf
          refine va_iald hx hb hK hP 12 0 (aM_12 g a M) rfl h_27 dX12_leastStep_172 ?_
          refine lv_icmp_ge (tgt := 181) hx hb dX12_leastStep_173 (by decide) (fun c_28 => ?_) (fun c_28 => ?_)
          · have hf := ifp c_28 hf
            refine lv_aload_n hx hb dX12_leastStep_181 rfl (lv_at hl 3 rfl) ?_
            refine fg_X12_43 C hP dX12_leastStep_182 ?_
            refine lv_iload hx hb dX12_leastStep_185 (lv_at hl 7 rfl) ?_
            refine va_iald hx hb hK hP 12 0 (aM_12 g a M) rfl h_27 dX12_leastStep_187 ?_
            refine ast (wM g a) C hP (wM_D hJ) hS 12 0 (aM_12 g a M) rfl (sM_12 g a M) h_27 dX12_leastStep_188 (fun H locs hP hS => ?_)
            obtain ⟨M29, eM29, hf⟩ := nms hf
            have hP : va_P D clL (wM g a M29) H := by rw [eM29]; exact hP
            refine lv_iinc (v := (x6 + 1)) (lv' := [(6, .int (x6 + 1)), (9, .int z26), (8, .int r19), (7, .int r15), (0, .ref (a 0)), (1, .int x1), (3, .int x3), (4, .int x4), (5, .int x5)]) hx hb dX12_leastStep_189 hl (k := 8) rfl rfl (by decide) rfl (fun ls hl => ?_)
            refine lv_goto (tgt := 89) hx hb dX12_leastStep_192 (by decide) ?_
            exact ih M29 (x6 + 1) H locs hP hS ls (lv_sub hl [4, 5, 6, 7, 8, 0] rfl) hf
          · have hf := ifn c_28 hf
            refine lv_iload hx hb dX12_leastStep_176 (lv_at hl 0 rfl) ?_
            refine lv_goto (tgt := 188) hx hb dX12_leastStep_178 (by decide) ?_
            refine ast (wM g a) C hP (wM_D hJ) hS 12 0 (aM_12 g a M) rfl (sM_12 g a M) h_27 dX12_leastStep_188 (fun H locs hP hS => ?_)
            obtain ⟨M30, eM30, hf⟩ := nms hf
            have hP : va_P D clL (wM g a M30) H := by rw [eM30]; exact hP
            refine lv_iinc (v := (x6 + 1)) (lv' := [(6, .int (x6 + 1)), (9, .int z26), (8, .int r19), (7, .int r15), (0, .ref (a 0)), (1, .int x1), (3, .int x3), (4, .int x4), (5, .int x5)]) hx hb dX12_leastStep_189 hl (k := 8) rfl rfl (by decide) rfl (fun ls hl => ?_)
            refine lv_goto (tgt := 89) hx hb dX12_leastStep_192 (by decide) ?_
            exact ih M30 (x6 + 1) H locs hP hS ls (lv_sub hl [4, 5, 6, 7, 8, 0] rfl) hf
set_option maxHeartbeats 4000000 in
set_option maxRecDepth 100000 in
theorem w_X12_leastStep_l77 {p : Program} {l : Launch} {e : Env} {s : State} {m : MethodId} {args : Array Value} {below : List Frame} {meth : Method} {c : Code} {D : va_G} {g : Nat → ClassId} {a : Nat → Nat} (C : Cx p s m args meth c cX12_leastStep 10 (some .int) RX12 D (tyL g)) (hJ : Inj a 18) (N : Nat) (x3 : Int32) (x1 : Int32) (x4 : Int32) (r : Int32) (M' : Mem) (kc : Mem → Option (Int32 × Mem)) (hkc : ∀ (M : Mem), ∀ (H : Heap) (locs : List Loc), va_P D clL (wM g a M) H → va_S (inA a 18) s.heap H locs → ∀ (ls : Array Slot), lv_has ls 10 [(0, .ref (a 0)), (1, .int x1), (3, .int x3), (4, .int x4)] → kc M = some (r, M') → W p l e (rmv 2 46) s m args below meth c H locs 0 0 (MQ below (WrQ D (wM g a M') (inA a 18) (.int r)) args s 0 0 (inA a 18)) (F0 m 201 ls [])) :
    ∀ (n : Nat) (M : Mem) (x5 : Int32), ∀ (H : Heap) (locs : List Loc), va_P D clL (wM g a M) H → va_S (inA a 18) s.heap H locs → ∀ (ls : Array Slot), lv_has ls 10 [(0, .ref (a 0)), (1, .int x1), (3, .int x3), (4, .int x4), (5, .int x5)] → f_X12_leastStep_l77 kc N x3 n M x5 = some (r, M') → W p l e (rmv 2 46) s m args below meth c H locs 0 0 (MQ below (WrQ D (wM g a M') (inA a 18) (.int r)) args s 0 0 (inA a 18)) (F0 m 77 ls []) := by
  obtain ⟨hx, hb, hr, hml, hown, ht, hlocks, hK, hN⟩ := id C
  intro n
  induction n with
  | zero =>
    intro M x5 H locs hP hS ls hl hf
    exact nos hf
  | succ n ih =>
    intro M x5 H locs hP hS ls hl hf
    rw [f_X12_leastStep_l77] at hf
    refine lv_iload hx hb dX12_leastStep_77 (lv_at hl 4 rfl) ?_
    refine lv_aload_n hx hb dX12_leastStep_79 rfl (lv_at hl 0 rfl) ?_
    obtain ⟨r12, e_12, hf⟩ := bns hf
    refine kR (rV (rest := [.int x5]) C (c_X12_all l D g a M r12 e_12) ok_X12_all wd_842 hP 0 (aM_0 g a M) rfl ⟨rfl, rfl, Nat.le_of_ble_eq_true rfl, Nat.le_of_ble_eq_true rfl⟩ rfl hl.1 rfl (Nat.le_of_ble_eq_true rfl) dX12_leastStep_80 ⟨Nat.le_of_ble_eq_true rfl, Nat.le_of_ble_eq_true rfl⟩) ?_
    refine lv_icmp_ge (tgt := 201) hx hb dX12_leastStep_83 (by decide) (fun c_13 => ?_) (fun c_13 => ?_)
    · have hf := ifp c_13 hf
      exact hkc M H locs hP hS ls (lv_sub hl [0, 1, 2, 3] rfl) hf
    · have hf := ifn c_13 hf
      refine lv_iconst (v := 0) hx hb dX12_leastStep_86 (by decide) ?_
      refine lv_istore (lv' := [(6, .int 0), (0, .ref (a 0)), (1, .int x1), (3, .int x3), (4, .int x4), (5, .int x5)]) hx hb dX12_leastStep_87 hl (by decide) rfl (fun ls hl => ?_)
      refine w_X12_leastStep_l89 C hJ N x3 x5 x1 x4 r M' _ (fun M31 H locs hP hS ls hl hf => ?_) N M 0 H locs hP hS ls (lv_sub hl [1, 2, 3, 4, 5, 0] rfl) hf
      refine lv_iinc (v := (x5 + 1)) (lv' := [(5, .int (x5 + 1)), (0, .ref (a 0)), (1, .int x1), (3, .int x3), (4, .int x4)]) hx hb dX12_leastStep_195 hl (k := 4) rfl rfl (by decide) rfl (fun ls hl => ?_)
      refine lv_goto (tgt := 77) hx hb dX12_leastStep_198 (by decide) ?_
      exact ih M31 (x5 + 1) H locs hP hS ls (lv_sub hl [1, 2, 3, 4, 0] rfl) hf
set_option maxHeartbeats 4000000 in
set_option maxRecDepth 100000 in
theorem w_X12_leastStep_l65 {p : Program} {l : Launch} {e : Env} {s : State} {m : MethodId} {args : Array Value} {below : List Frame} {meth : Method} {c : Code} {D : va_G} {g : Nat → ClassId} {a : Nat → Nat} (C : Cx p s m args meth c cX12_leastStep 10 (some .int) RX12 D (tyL g)) (hJ : Inj a 18) (N : Nat) (x1 : Int32) (x3 : Int32) (r : Int32) (M' : Mem) :
    ∀ (n : Nat) (M : Mem) (x4 : Int32), ∀ (H : Heap) (locs : List Loc), va_P D clL (wM g a M) H → va_S (inA a 18) s.heap H locs → ∀ (ls : Array Slot), lv_has ls 10 [(0, .ref (a 0)), (1, .int x1), (3, .int x3), (4, .int x4)] → f_X12_leastStep_l65 N x1 x3 n M x4 = some (r, M') → W p l e (rmv 2 46) s m args below meth c H locs 0 0 (MQ below (WrQ D (wM g a M') (inA a 18) (.int r)) args s 0 0 (inA a 18)) (F0 m 65 ls []) := by
  obtain ⟨hx, hb, hr, hml, hown, ht, hlocks, hK, hN⟩ := id C
  intro n
  induction n with
  | zero =>
    intro M x4 H locs hP hS ls hl hf
    exact nos hf
  | succ n ih =>
    intro M x4 H locs hP hS ls hl hf
    rw [f_X12_leastStep_l65] at hf
    refine lv_iload hx hb dX12_leastStep_65 (lv_at hl 3 rfl) ?_
    refine lv_aload_n hx hb dX12_leastStep_67 rfl (lv_at hl 0 rfl) ?_
    obtain ⟨r9, e_9, hf⟩ := bns hf
    refine kR (rV (rest := [.int x4]) C (c_X12_all l D g a M r9 e_9) ok_X12_all wd_842 hP 0 (aM_0 g a M) rfl ⟨rfl, rfl, Nat.le_of_ble_eq_true rfl, Nat.le_of_ble_eq_true rfl⟩ rfl hl.1 rfl (Nat.le_of_ble_eq_true rfl) dX12_leastStep_68 ⟨Nat.le_of_ble_eq_true rfl, Nat.le_of_ble_eq_true rfl⟩) ?_
    refine lv_icmp_ge (tgt := 207) hx hb dX12_leastStep_71 (by decide) (fun c_10 => ?_) (fun c_10 => ?_)
    · have hf := ifp c_10 hf
      refine lv_aload_n hx hb dX12_leastStep_207 rfl (lv_at hl 0 rfl) ?_
      refine fg_X12_43 C hP dX12_leastStep_208 ?_
      refine lv_iload_n hx hb dX12_leastStep_211 rfl (lv_at hl 1 rfl) ?_
      obtain ⟨h_11, hf⟩ := ifs hf
      refine va_iald hx hb hK hP 12 0 (aM_12 g a M) rfl h_11 dX12_leastStep_212 ?_
      obtain ⟨rfl, rfl⟩ := Prod.mk.inj (Option.some.inj hf)
      exact retW C hP hS dX12_leastStep_213
    · have hf := ifn c_10 hf
      refine lv_iconst (v := 0) hx hb dX12_leastStep_74 (by decide) ?_
      refine lv_istore (lv' := [(5, .int 0), (0, .ref (a 0)), (1, .int x1), (3, .int x3), (4, .int x4)]) hx hb dX12_leastStep_75 hl (by decide) rfl (fun ls hl => ?_)
      refine w_X12_leastStep_l77 C hJ N x3 x1 x4 r M' _ (fun M32 H locs hP hS ls hl hf => ?_) N M 0 H locs hP hS ls (lv_sub hl [1, 2, 3, 4, 0] rfl) hf
      refine lv_iinc (v := (x4 + 1)) (lv' := [(4, .int (x4 + 1)), (0, .ref (a 0)), (1, .int x1), (3, .int x3)]) hx hb dX12_leastStep_201 hl (k := 3) rfl rfl (by decide) rfl (fun ls hl => ?_)
      refine lv_goto (tgt := 65) hx hb dX12_leastStep_204 (by decide) ?_
      exact ih M32 (x4 + 1) H locs hP hS ls (lv_sub hl [1, 2, 3, 0] rfl) hf
set_option maxHeartbeats 4000000 in
set_option maxRecDepth 100000 in
theorem w_X12_leastStep_l28 {p : Program} {l : Launch} {e : Env} {s : State} {m : MethodId} {args : Array Value} {below : List Frame} {meth : Method} {c : Code} {D : va_G} {g : Nat → ClassId} {a : Nat → Nat} (C : Cx p s m args meth c cX12_leastStep 10 (some .int) RX12 D (tyL g)) (hJ : Inj a 18) (N : Nat) (x1 : Int32) (x2 : Int32) (x3 : Int32) (r : Int32) (M' : Mem) :
    ∀ (n : Nat) (M : Mem) (x4 : Int32), ∀ (H : Heap) (locs : List Loc), va_P D clL (wM g a M) H → va_S (inA a 18) s.heap H locs → ∀ (ls : Array Slot), lv_has ls 10 [(0, .ref (a 0)), (1, .int x1), (2, .int x2), (3, .int x3), (4, .int x4)] → f_X12_leastStep_l28 N x1 x2 x3 n M x4 = some (r, M') → W p l e (rmv 2 46) s m args below meth c H locs 0 0 (MQ below (WrQ D (wM g a M') (inA a 18) (.int r)) args s 0 0 (inA a 18)) (F0 m 28 ls []) := by
  obtain ⟨hx, hb, hr, hml, hown, ht, hlocks, hK, hN⟩ := id C
  intro n
  induction n with
  | zero =>
    intro M x4 H locs hP hS ls hl hf
    exact nos hf
  | succ n ih =>
    intro M x4 H locs hP hS ls hl hf
    rw [f_X12_leastStep_l28] at hf
    refine lv_iload hx hb dX12_leastStep_28 (lv_at hl 4 rfl) ?_
    refine lv_aload_n hx hb dX12_leastStep_30 rfl (lv_at hl 0 rfl) ?_
    obtain ⟨r7, e_7, hf⟩ := bns hf
    refine kR (rV (rest := [.int x4]) C (c_X12_all l D g a M r7 e_7) ok_X12_all wd_842 hP 0 (aM_0 g a M) rfl ⟨rfl, rfl, Nat.le_of_ble_eq_true rfl, Nat.le_of_ble_eq_true rfl⟩ rfl hl.1 rfl (Nat.le_of_ble_eq_true rfl) dX12_leastStep_31 ⟨Nat.le_of_ble_eq_true rfl, Nat.le_of_ble_eq_true rfl⟩) ?_
    refine lv_icmp_ge (tgt := 62) hx hb dX12_leastStep_34 (by decide) (fun c_8 => ?_) (fun c_8 => ?_)
    · have hf := ifp c_8 hf
      refine lv_iconst (v := 0) hx hb dX12_leastStep_62 (by decide) ?_
      refine lv_istore (lv' := [(4, .int 0), (0, .ref (a 0)), (1, .int x1), (2, .int x2), (3, .int x3)]) hx hb dX12_leastStep_63 hl (by decide) rfl (fun ls hl => ?_)
      exact w_X12_leastStep_l65 C hJ N x1 x3 r M' N M 0 H locs hP hS ls (lv_sub hl [1, 2, 4, 0] rfl) hf
    · have hf := ifn c_8 hf
      refine lv_aload_n hx hb dX12_leastStep_37 rfl (lv_at hl 0 rfl) ?_
      refine fg_X12_43 C hP dX12_leastStep_38 ?_
      refine lv_iload hx hb dX12_leastStep_41 (lv_at hl 4 rfl) ?_
      refine lv_iload hx hb dX12_leastStep_43 (lv_at hl 4 rfl) ?_
      refine lv_iload_n hx hb dX12_leastStep_45 rfl (lv_at hl 2 rfl) ?_
      refine lv_icmp_ne (tgt := 53) hx hb dX12_leastStep_46 (by decide) (fun c_33 => ?_) (fun c_33 => ?_)
      · have hf := ifn c_33 hf
        refine lv_ldc hx hb hown (ht _ wd_889) dX12_leastStep_53 ?_
        obtain ⟨h_34, hf⟩ := ifs hf
        refine ast (wM g a) C hP (wM_D hJ) hS 12 0 (aM_12 g a M) rfl (sM_12 g a M) h_34 dX12_leastStep_55 (fun H locs hP hS => ?_)
        obtain ⟨M35, eM35, hf⟩ := nms hf
        have hP : va_P D clL (wM g a M35) H := by rw [eM35]; exact hP
        refine lv_iinc (v := (x4 + 1)) (lv' := [(4, .int (x4 + 1)), (0, .ref (a 0)), (1, .int x1), (2, .int x2), (3, .int x3)]) hx hb dX12_leastStep_56 hl (k := 4) rfl rfl (by decide) rfl (fun ls hl => ?_)
        refine lv_goto (tgt := 28) hx hb dX12_leastStep_59 (by decide) ?_
        exact ih M35 (x4 + 1) H locs hP hS ls (lv_sub hl [1, 2, 3, 4, 0] rfl) hf
      · have hf := ifp c_33 hf
        refine lv_iconst (v := 0) hx hb dX12_leastStep_49 (by decide) ?_
        refine lv_goto (tgt := 55) hx hb dX12_leastStep_50 (by decide) ?_
        obtain ⟨h_36, hf⟩ := ifs hf
        refine ast (wM g a) C hP (wM_D hJ) hS 12 0 (aM_12 g a M) rfl (sM_12 g a M) h_36 dX12_leastStep_55 (fun H locs hP hS => ?_)
        obtain ⟨M37, eM37, hf⟩ := nms hf
        have hP : va_P D clL (wM g a M37) H := by rw [eM37]; exact hP
        refine lv_iinc (v := (x4 + 1)) (lv' := [(4, .int (x4 + 1)), (0, .ref (a 0)), (1, .int x1), (2, .int x2), (3, .int x3)]) hx hb dX12_leastStep_56 hl (k := 4) rfl rfl (by decide) rfl (fun ls hl => ?_)
        refine lv_goto (tgt := 28) hx hb dX12_leastStep_59 (by decide) ?_
        exact ih M37 (x4 + 1) H locs hP hS ls (lv_sub hl [1, 2, 3, 4, 0] rfl) hf
set_option maxHeartbeats 4000000 in
set_option maxRecDepth 100000 in
theorem c_X12_leastStep (l : Launch) (D : va_G) (g : Nat → ClassId) (a : Nat → Nat) (hJ : Inj a 18) (N : Nat) (M : Mem) (x1 : Int32) (x2 : Int32) (x3 : Int32) (r : Int32) (M' : Mem) (hf : f_X12_leastStep N M x1 x2 x3 = some (r, M')) : Met l yX12_leastStep (cW yX12_leastStep cX12_leastStep 10 (some .int)) (rmv 2 46) (Pw D (tyL g) (wM g a M) [.ref (a 0), .int x1, .int x2, .int x3]) (WrQ D (wM g a M') (inA a 18) (.int r)) 0 0 (inA a 18) := by
  unfold f_X12_leastStep at hf
  refine met_inW (A := (inA a 18)) (by decide) (Nat.le_of_ble_eq_true rfl) ?_
  intro p e s m args below meth c ls H locs C hP hS hl
  have C : Cx p s m args meth c cX12_leastStep 10 (some .int) RX12 D (tyL g) := C
  obtain ⟨hx, hb, hr, hml, hown, ht, hlocks, hK, hN⟩ := id C
  have hl : lv_has ls 10 [(0, .ref (a 0)), (1, .int x1), (2, .int x2), (3, .int x3)] := hl
  refine lv_aload_n hx hb dX12_leastStep_0 rfl (lv_at hl 0 rfl) ?_
  refine lv_iload_n hx hb dX12_leastStep_1 rfl (lv_at hl 1 rfl) ?_
  obtain ⟨r1, e_1, hf⟩ := bns hf
  refine kR (rV (rest := []) C (c_X12_isStone l D g a M x1 r1 e_1) ok_X12_isStone wd_850 hP 0 (aM_0 g a M) rfl ⟨rfl, rfl, Nat.le_of_ble_eq_true rfl, Nat.le_of_ble_eq_true rfl⟩ rfl hl.1 rfl (Nat.le_of_ble_eq_true rfl) dX12_leastStep_2 ⟨Nat.le_of_ble_eq_true rfl, Nat.le_of_ble_eq_true rfl⟩) ?_
  refine lv_if_eq (tgt := 23) hx hb dX12_leastStep_5 (by decide) (fun c_2 => ?_) (fun c_2 => ?_)
  · have hf := ifp c_2 hf
    refine lv_iconst (v := (-1)) hx hb dX12_leastStep_23 (by decide) ?_
    obtain ⟨rfl, rfl⟩ := Prod.mk.inj (Option.some.inj hf)
    exact retW C hP hS dX12_leastStep_24
  · have hf := ifn c_2 hf
    refine lv_aload_n hx hb dX12_leastStep_8 rfl (lv_at hl 0 rfl) ?_
    refine lv_iload_n hx hb dX12_leastStep_9 rfl (lv_at hl 2 rfl) ?_
    obtain ⟨r3, e_3, hf⟩ := bns hf
    refine kR (rV (rest := []) C (c_X12_isStone l D g a M x2 r3 e_3) ok_X12_isStone wd_850 hP 0 (aM_0 g a M) rfl ⟨rfl, rfl, Nat.le_of_ble_eq_true rfl, Nat.le_of_ble_eq_true rfl⟩ rfl hl.1 rfl (Nat.le_of_ble_eq_true rfl) dX12_leastStep_10 ⟨Nat.le_of_ble_eq_true rfl, Nat.le_of_ble_eq_true rfl⟩) ?_
    refine lv_if_eq (tgt := 23) hx hb dX12_leastStep_13 (by decide) (fun c_4 => ?_) (fun c_4 => ?_)
    · have hf := ifp c_4 hf
      refine lv_iconst (v := (-1)) hx hb dX12_leastStep_23 (by decide) ?_
      obtain ⟨rfl, rfl⟩ := Prod.mk.inj (Option.some.inj hf)
      exact retW C hP hS dX12_leastStep_24
    · have hf := ifn c_4 hf
      refine lv_iload_n hx hb dX12_leastStep_16 rfl (lv_at hl 3 rfl) ?_
      obtain ⟨r5, e_5, hf⟩ := bns hf
      refine kR (rS (rest := []) C (c_X12_isMonth l D (tyL g) (wM g a M) x3 r5 e_5) ok_X12_isMonth wd_858 hP ⟨rfl, rfl, Nat.le_of_ble_eq_true rfl, Nat.le_of_ble_eq_true rfl⟩ rfl hl.1 rfl (Nat.le_of_ble_eq_true rfl) dX12_leastStep_17 ⟨Nat.le_of_ble_eq_true rfl, Nat.le_of_ble_eq_true rfl⟩) ?_
      refine lv_if_ne (tgt := 25) hx hb dX12_leastStep_20 (by decide) (fun c_6 => ?_) (fun c_6 => ?_)
      · have hf := ifn c_6 hf
        refine lv_iconst (v := 0) hx hb dX12_leastStep_25 (by decide) ?_
        refine lv_istore (lv' := [(4, .int 0), (0, .ref (a 0)), (1, .int x1), (2, .int x2), (3, .int x3)]) hx hb dX12_leastStep_26 hl (by decide) rfl (fun ls hl => ?_)
        exact w_X12_leastStep_l28 C hJ N x1 x2 x3 r M' N M 0 H locs hP hS ls (lv_sub hl [1, 2, 3, 4, 0] rfl) hf
      · have hf := ifp c_6 hf
        refine lv_iconst (v := (-1)) hx hb dX12_leastStep_23 (by decide) ?_
        obtain ⟨rfl, rfl⟩ := Prod.mk.inj (Option.some.inj hf)
        exact retW C hP hS dX12_leastStep_24
set_option maxHeartbeats 4000000 in
set_option maxRecDepth 100000 in
theorem c_X12_isPlace (l : Launch) (D : va_G) (g : Nat → ClassId) (a : Nat → Nat) (M : Mem) (x1 : Int32) (r : Int32) (hf : f_X12_isPlace M x1 = some r) : Met l yX12_isPlace (cW yX12_isPlace cX12_isPlace 2 (some .boolean)) (rmv 2 41) (Pw D (tyL g) (wM g a M) [.ref (a 0), .int x1]) (RdQ (.int r)) 0 0 nof := by
  unfold f_X12_isPlace at hf
  refine met_in (by decide) (Nat.le_of_ble_eq_true rfl) ?_
  intro p e s m args below meth c ls C hP hl
  have C : Cx p s m args meth c cX12_isPlace 2 (some .boolean) RX12 D (tyL g) := C
  obtain ⟨hx, hb, hr, hml, hown, ht, hlocks, hK, hN⟩ := id C
  have hl : lv_has ls 2 [(0, .ref (a 0)), (1, .int x1)] := hl
  refine lv_aload_n hx hb dX12_isPlace_0 rfl (lv_at hl 0 rfl) ?_
  refine lv_iload_n hx hb dX12_isPlace_1 rfl (lv_at hl 1 rfl) ?_
  obtain ⟨r1, e_1, hf⟩ := bns hf
  refine kR (rV (rest := []) C (c_X12_isStone l D g a M x1 r1 e_1) ok_X12_isStone wd_850 hP 0 (aM_0 g a M) rfl ⟨rfl, rfl, Nat.le_of_ble_eq_true rfl, Nat.le_of_ble_eq_true rfl⟩ rfl hl.1 rfl (Nat.le_of_ble_eq_true rfl) dX12_isPlace_2 ⟨Nat.le_of_ble_eq_true rfl, Nat.le_of_ble_eq_true rfl⟩) ?_
  refine lv_if_eq (tgt := 42) hx hb dX12_isPlace_5 (by decide) (fun c_2 => ?_) (fun c_2 => ?_)
  · have hf := ifp c_2 hf
    refine lv_iconst (v := 0) hx hb dX12_isPlace_42 (by decide) ?_
    obtain rfl := Option.some.inj hf
    exact retRz C (Or.inl rfl) dX12_isPlace_43
  · have hf := ifn c_2 hf
    refine lv_iload_n hx hb dX12_isPlace_8 rfl (lv_at hl 1 rfl) ?_
    refine lv_aload_n hx hb dX12_isPlace_9 rfl (lv_at hl 0 rfl) ?_
    refine fg_X12_75 C hP dX12_isPlace_10 ?_
    obtain ⟨h_3, hf⟩ := ifs hf
    refine lv_idiv hx hb dX12_isPlace_13 h_3 ?_
    refine lv_aload_n hx hb dX12_isPlace_14 rfl (lv_at hl 0 rfl) ?_
    refine fg_X12_72 C hP dX12_isPlace_15 ?_
    refine lv_iconst (v := 1) hx hb dX12_isPlace_18 (by decide) ?_
    refine lv_isub hx hb dX12_isPlace_19 ?_
    refine lv_icmp_ge (tgt := 42) hx hb dX12_isPlace_20 (by decide) (fun c_4 => ?_) (fun c_4 => ?_)
    · have hf := ifp c_4 hf
      refine lv_iconst (v := 0) hx hb dX12_isPlace_42 (by decide) ?_
      obtain rfl := Option.some.inj hf
      exact retRz C (Or.inl rfl) dX12_isPlace_43
    · have hf := ifn c_4 hf
      refine lv_iload_n hx hb dX12_isPlace_23 rfl (lv_at hl 1 rfl) ?_
      refine lv_aload_n hx hb dX12_isPlace_24 rfl (lv_at hl 0 rfl) ?_
      refine fg_X12_75 C hP dX12_isPlace_25 ?_
      refine lv_irem hx hb dX12_isPlace_28 h_3 ?_
      refine lv_aload_n hx hb dX12_isPlace_29 rfl (lv_at hl 0 rfl) ?_
      refine fg_X12_75 C hP dX12_isPlace_30 ?_
      refine lv_iconst (v := 1) hx hb dX12_isPlace_33 (by decide) ?_
      refine lv_isub hx hb dX12_isPlace_34 ?_
      refine lv_icmp_ge (tgt := 42) hx hb dX12_isPlace_35 (by decide) (fun c_5 => ?_) (fun c_5 => ?_)
      · have hf := ifp c_5 hf
        refine lv_iconst (v := 0) hx hb dX12_isPlace_42 (by decide) ?_
        obtain rfl := Option.some.inj hf
        exact retRz C (Or.inl rfl) dX12_isPlace_43
      · have hf := ifn c_5 hf
        refine lv_iconst (v := 1) hx hb dX12_isPlace_38 (by decide) ?_
        refine lv_goto (tgt := 43) hx hb dX12_isPlace_39 (by decide) ?_
        obtain rfl := Option.some.inj hf
        exact retRz C (Or.inr rfl) dX12_isPlace_43
set_option maxHeartbeats 4000000 in
set_option maxRecDepth 100000 in
theorem c_X12_wedgesOf (l : Launch) (D : va_G) (g : Nat → ClassId) (a : Nat → Nat) (M : Mem) (x1 : Int32) (x2 : Int32) (r : Int32) (hf : f_X12_wedgesOf M x1 x2 = some r) : Met l yX12_wedgesOf (cW yX12_wedgesOf cX12_wedgesOf 8 (some .int)) (rmv 2 46) (Pw D (tyL g) (wM g a M) [.ref (a 0), .int x1, .int x2]) (RdQ (.int r)) 0 0 nof := by
  unfold f_X12_wedgesOf at hf
  refine met_in (by decide) (Nat.le_of_ble_eq_true rfl) ?_
  intro p e s m args below meth c ls C hP hl
  have C : Cx p s m args meth c cX12_wedgesOf 8 (some .int) RX12 D (tyL g) := C
  obtain ⟨hx, hb, hr, hml, hown, ht, hlocks, hK, hN⟩ := id C
  have hl : lv_has ls 8 [(0, .ref (a 0)), (1, .int x1), (2, .int x2)] := hl
  refine lv_aload_n hx hb dX12_wedgesOf_0 rfl (lv_at hl 0 rfl) ?_
  refine lv_iload_n hx hb dX12_wedgesOf_1 rfl (lv_at hl 1 rfl) ?_
  refine lv_iload_n hx hb dX12_wedgesOf_2 rfl (lv_at hl 2 rfl) ?_
  obtain ⟨r1, e_1, hf⟩ := bns hf
  refine kR (rV (rest := []) C (c_X12_heightOf l D g a M x1 x2 r1 e_1) ok_X12_heightOf wd_869 hP 0 (aM_0 g a M) rfl ⟨rfl, rfl, Nat.le_of_ble_eq_true rfl, Nat.le_of_ble_eq_true rfl⟩ rfl hl.1 rfl (Nat.le_of_ble_eq_true rfl) dX12_wedgesOf_3 ⟨Nat.le_of_ble_eq_true rfl, Nat.le_of_ble_eq_true rfl⟩) ?_
  refine lv_istore_n (lv' := [(3, .int r1), (0, .ref (a 0)), (1, .int x1), (2, .int x2)]) hx hb dX12_wedgesOf_6 rfl hl (by decide) rfl (fun ls hl => ?_)
  refine lv_aload_n hx hb dX12_wedgesOf_7 rfl (lv_at hl 1 rfl) ?_
  refine lv_iload_n hx hb dX12_wedgesOf_8 rfl (lv_at hl 2 rfl) ?_
  refine lv_iconst (v := 1) hx hb dX12_wedgesOf_9 (by decide) ?_
  refine lv_iadd hx hb dX12_wedgesOf_10 ?_
  refine lv_iload_n hx hb dX12_wedgesOf_11 rfl (lv_at hl 3 rfl) ?_
  obtain ⟨r2, e_2, hf⟩ := bns hf
  refine kR (rV (rest := []) C (c_X12_heightOf l D g a M (x1 + 1) x2 r2 e_2) ok_X12_heightOf wd_869 hP 0 (aM_0 g a M) rfl ⟨rfl, rfl, Nat.le_of_ble_eq_true rfl, Nat.le_of_ble_eq_true rfl⟩ rfl hl.1 rfl (Nat.le_of_ble_eq_true rfl) dX12_wedgesOf_12 ⟨Nat.le_of_ble_eq_true rfl, Nat.le_of_ble_eq_true rfl⟩) ?_
  refine lv_istore (lv' := [(4, .int r2), (3, .int r1), (0, .ref (a 0)), (1, .int x1), (2, .int x2)]) hx hb dX12_wedgesOf_15 hl (by decide) rfl (fun ls hl => ?_)
  refine lv_aload_n hx hb dX12_wedgesOf_17 rfl (lv_at hl 2 rfl) ?_
  refine lv_iload_n hx hb dX12_wedgesOf_18 rfl (lv_at hl 3 rfl) ?_
  refine lv_aload_n hx hb dX12_wedgesOf_19 rfl (lv_at hl 2 rfl) ?_
  refine fg_X12_75 C hP dX12_wedgesOf_20 ?_
  refine lv_iadd hx hb dX12_wedgesOf_23 ?_
  refine lv_iload_n hx hb dX12_wedgesOf_24 rfl (lv_at hl 4 rfl) ?_
  obtain ⟨r3, e_3, hf⟩ := bns hf
  refine kR (rV (rest := []) C (c_X12_heightOf l D g a M (x1 + (M 0 6)) x2 r3 e_3) ok_X12_heightOf wd_869 hP 0 (aM_0 g a M) rfl ⟨rfl, rfl, Nat.le_of_ble_eq_true rfl, Nat.le_of_ble_eq_true rfl⟩ rfl hl.1 rfl (Nat.le_of_ble_eq_true rfl) dX12_wedgesOf_25 ⟨Nat.le_of_ble_eq_true rfl, Nat.le_of_ble_eq_true rfl⟩) ?_
  refine lv_istore (lv' := [(5, .int r3), (4, .int r2), (3, .int r1), (0, .ref (a 0)), (1, .int x1), (2, .int x2)]) hx hb dX12_wedgesOf_28 hl (by decide) rfl (fun ls hl => ?_)
  refine lv_aload_n hx hb dX12_wedgesOf_30 rfl (lv_at hl 3 rfl) ?_
  refine lv_iload_n hx hb dX12_wedgesOf_31 rfl (lv_at hl 4 rfl) ?_
  refine lv_aload_n hx hb dX12_wedgesOf_32 rfl (lv_at hl 3 rfl) ?_
  refine fg_X12_75 C hP dX12_wedgesOf_33 ?_
  refine lv_iadd hx hb dX12_wedgesOf_36 ?_
  refine lv_iconst (v := 1) hx hb dX12_wedgesOf_37 (by decide) ?_
  refine lv_iadd hx hb dX12_wedgesOf_38 ?_
  refine lv_iload_n hx hb dX12_wedgesOf_39 rfl (lv_at hl 5 rfl) ?_
  obtain ⟨r4, e_4, hf⟩ := bns hf
  refine kR (rV (rest := []) C (c_X12_heightOf l D g a M ((x1 + (M 0 6)) + 1) x2 r4 e_4) ok_X12_heightOf wd_869 hP 0 (aM_0 g a M) rfl ⟨rfl, rfl, Nat.le_of_ble_eq_true rfl, Nat.le_of_ble_eq_true rfl⟩ rfl hl.1 rfl (Nat.le_of_ble_eq_true rfl) dX12_wedgesOf_40 ⟨Nat.le_of_ble_eq_true rfl, Nat.le_of_ble_eq_true rfl⟩) ?_
  refine lv_istore (lv' := [(6, .int r4), (5, .int r3), (4, .int r2), (3, .int r1), (0, .ref (a 0)), (1, .int x1), (2, .int x2)]) hx hb dX12_wedgesOf_43 hl (by decide) rfl (fun ls hl => ?_)
  refine lv_iload_n hx hb dX12_wedgesOf_45 rfl (lv_at hl 3 rfl) ?_
  refine lv_iload hx hb dX12_wedgesOf_46 (lv_at hl 2 rfl) ?_
  refine lv_icmp_le (tgt := 55) hx hb dX12_wedgesOf_48 (by decide) (fun c_5 => ?_) (fun c_5 => ?_)
  · have hf := ifp c_5 hf
    refine lv_iload hx hb dX12_wedgesOf_55 (lv_at hl 2 rfl) ?_
    refine lv_istore (lv' := [(7, .int r2), (6, .int r4), (5, .int r3), (4, .int r2), (3, .int r1), (0, .ref (a 0)), (1, .int x1), (2, .int x2)]) hx hb dX12_wedgesOf_57 hl (by decide) rfl (fun ls hl => ?_)
    refine lv_iload hx hb dX12_wedgesOf_59 (lv_at hl 2 rfl) ?_
    refine lv_iload hx hb dX12_wedgesOf_61 (lv_at hl 0 rfl) ?_
    refine lv_icmp_le (tgt := 71) hx hb dX12_wedgesOf_63 (by decide) (fun c_6 => ?_) (fun c_6 => ?_)
    · have hf := ifp c_6 hf
      refine lv_iload hx hb dX12_wedgesOf_71 (lv_at hl 0 rfl) ?_
      refine lv_istore (lv' := [(7, .int r2), (6, .int r4), (5, .int r3), (4, .int r2), (3, .int r1), (0, .ref (a 0)), (1, .int x1), (2, .int x2)]) hx hb dX12_wedgesOf_73 hl (by decide) rfl (fun ls hl => ?_)
      refine lv_iload hx hb dX12_wedgesOf_75 (lv_at hl 1 rfl) ?_
      refine lv_iload hx hb dX12_wedgesOf_77 (lv_at hl 0 rfl) ?_
      refine lv_icmp_le (tgt := 87) hx hb dX12_wedgesOf_79 (by decide) (fun c_7 => ?_) (fun c_7 => ?_)
      · have hf := ifp c_7 hf
        refine lv_iload hx hb dX12_wedgesOf_87 (lv_at hl 0 rfl) ?_
        refine lv_istore (lv' := [(7, .int r2), (6, .int r4), (5, .int r3), (4, .int r2), (3, .int r1), (0, .ref (a 0)), (1, .int x1), (2, .int x2)]) hx hb dX12_wedgesOf_89 hl (by decide) rfl (fun ls hl => ?_)
        refine lv_iconst (v := 4) hx hb dX12_wedgesOf_91 (by decide) ?_
        refine lv_iload hx hb dX12_wedgesOf_92 (lv_at hl 0 rfl) ?_
        refine lv_imul hx hb dX12_wedgesOf_94 ?_
        refine lv_iload_n hx hb dX12_wedgesOf_95 rfl (lv_at hl 4 rfl) ?_
        refine lv_isub hx hb dX12_wedgesOf_96 ?_
        refine lv_iload hx hb dX12_wedgesOf_97 (lv_at hl 3 rfl) ?_
        refine lv_isub hx hb dX12_wedgesOf_99 ?_
        refine lv_iload hx hb dX12_wedgesOf_100 (lv_at hl 2 rfl) ?_
        refine lv_isub hx hb dX12_wedgesOf_102 ?_
        refine lv_iload hx hb dX12_wedgesOf_103 (lv_at hl 1 rfl) ?_
        refine lv_isub hx hb dX12_wedgesOf_105 ?_
        obtain rfl := Option.some.inj hf
        exact retR C dX12_wedgesOf_106
      · have hf := ifn c_7 hf
        refine lv_iload hx hb dX12_wedgesOf_82 (lv_at hl 1 rfl) ?_
        refine lv_goto (tgt := 89) hx hb dX12_wedgesOf_84 (by decide) ?_
        refine lv_istore (lv' := [(7, .int r4), (6, .int r4), (5, .int r3), (4, .int r2), (3, .int r1), (0, .ref (a 0)), (1, .int x1), (2, .int x2)]) hx hb dX12_wedgesOf_89 hl (by decide) rfl (fun ls hl => ?_)
        refine lv_iconst (v := 4) hx hb dX12_wedgesOf_91 (by decide) ?_
        refine lv_iload hx hb dX12_wedgesOf_92 (lv_at hl 0 rfl) ?_
        refine lv_imul hx hb dX12_wedgesOf_94 ?_
        refine lv_iload_n hx hb dX12_wedgesOf_95 rfl (lv_at hl 4 rfl) ?_
        refine lv_isub hx hb dX12_wedgesOf_96 ?_
        refine lv_iload hx hb dX12_wedgesOf_97 (lv_at hl 3 rfl) ?_
        refine lv_isub hx hb dX12_wedgesOf_99 ?_
        refine lv_iload hx hb dX12_wedgesOf_100 (lv_at hl 2 rfl) ?_
        refine lv_isub hx hb dX12_wedgesOf_102 ?_
        refine lv_iload hx hb dX12_wedgesOf_103 (lv_at hl 1 rfl) ?_
        refine lv_isub hx hb dX12_wedgesOf_105 ?_
        obtain rfl := Option.some.inj hf
        exact retR C dX12_wedgesOf_106
    · have hf := ifn c_6 hf
      refine lv_iload hx hb dX12_wedgesOf_66 (lv_at hl 2 rfl) ?_
      refine lv_goto (tgt := 73) hx hb dX12_wedgesOf_68 (by decide) ?_
      refine lv_istore (lv' := [(7, .int r3), (6, .int r4), (5, .int r3), (4, .int r2), (3, .int r1), (0, .ref (a 0)), (1, .int x1), (2, .int x2)]) hx hb dX12_wedgesOf_73 hl (by decide) rfl (fun ls hl => ?_)
      refine lv_iload hx hb dX12_wedgesOf_75 (lv_at hl 1 rfl) ?_
      refine lv_iload hx hb dX12_wedgesOf_77 (lv_at hl 0 rfl) ?_
      refine lv_icmp_le (tgt := 87) hx hb dX12_wedgesOf_79 (by decide) (fun c_8 => ?_) (fun c_8 => ?_)
      · have hf := ifp c_8 hf
        refine lv_iload hx hb dX12_wedgesOf_87 (lv_at hl 0 rfl) ?_
        refine lv_istore (lv' := [(7, .int r3), (6, .int r4), (5, .int r3), (4, .int r2), (3, .int r1), (0, .ref (a 0)), (1, .int x1), (2, .int x2)]) hx hb dX12_wedgesOf_89 hl (by decide) rfl (fun ls hl => ?_)
        refine lv_iconst (v := 4) hx hb dX12_wedgesOf_91 (by decide) ?_
        refine lv_iload hx hb dX12_wedgesOf_92 (lv_at hl 0 rfl) ?_
        refine lv_imul hx hb dX12_wedgesOf_94 ?_
        refine lv_iload_n hx hb dX12_wedgesOf_95 rfl (lv_at hl 4 rfl) ?_
        refine lv_isub hx hb dX12_wedgesOf_96 ?_
        refine lv_iload hx hb dX12_wedgesOf_97 (lv_at hl 3 rfl) ?_
        refine lv_isub hx hb dX12_wedgesOf_99 ?_
        refine lv_iload hx hb dX12_wedgesOf_100 (lv_at hl 2 rfl) ?_
        refine lv_isub hx hb dX12_wedgesOf_102 ?_
        refine lv_iload hx hb dX12_wedgesOf_103 (lv_at hl 1 rfl) ?_
        refine lv_isub hx hb dX12_wedgesOf_105 ?_
        obtain rfl := Option.some.inj hf
        exact retR C dX12_wedgesOf_106
      · have hf := ifn c_8 hf
        refine lv_iload hx hb dX12_wedgesOf_82 (lv_at hl 1 rfl) ?_
        refine lv_goto (tgt := 89) hx hb dX12_wedgesOf_84 (by decide) ?_
        refine lv_istore (lv' := [(7, .int r4), (6, .int r4), (5, .int r3), (4, .int r2), (3, .int r1), (0, .ref (a 0)), (1, .int x1), (2, .int x2)]) hx hb dX12_wedgesOf_89 hl (by decide) rfl (fun ls hl => ?_)
        refine lv_iconst (v := 4) hx hb dX12_wedgesOf_91 (by decide) ?_
        refine lv_iload hx hb dX12_wedgesOf_92 (lv_at hl 0 rfl) ?_
        refine lv_imul hx hb dX12_wedgesOf_94 ?_
        refine lv_iload_n hx hb dX12_wedgesOf_95 rfl (lv_at hl 4 rfl) ?_
        refine lv_isub hx hb dX12_wedgesOf_96 ?_
        refine lv_iload hx hb dX12_wedgesOf_97 (lv_at hl 3 rfl) ?_
        refine lv_isub hx hb dX12_wedgesOf_99 ?_
        refine lv_iload hx hb dX12_wedgesOf_100 (lv_at hl 2 rfl) ?_
        refine lv_isub hx hb dX12_wedgesOf_102 ?_
        refine lv_iload hx hb dX12_wedgesOf_103 (lv_at hl 1 rfl) ?_
        refine lv_isub hx hb dX12_wedgesOf_105 ?_
        obtain rfl := Option.some.inj hf
        exact retR C dX12_wedgesOf_106
  · have hf := ifn c_5 hf
    refine lv_iload_n hx hb dX12_wedgesOf_51 rfl (lv_at hl 3 rfl) ?_
    refine lv_goto (tgt := 57) hx hb dX12_wedgesOf_52 (by decide) ?_
    refine lv_istore (lv' := [(7, .int r1), (6, .int r4), (5, .int r3), (4, .int r2), (3, .int r1), (0, .ref (a 0)), (1, .int x1), (2, .int x2)]) hx hb dX12_wedgesOf_57 hl (by decide) rfl (fun ls hl => ?_)
    refine lv_iload hx hb dX12_wedgesOf_59 (lv_at hl 2 rfl) ?_
    refine lv_iload hx hb dX12_wedgesOf_61 (lv_at hl 0 rfl) ?_
    refine lv_icmp_le (tgt := 71) hx hb dX12_wedgesOf_63 (by decide) (fun c_9 => ?_) (fun c_9 => ?_)
    · have hf := ifp c_9 hf
      refine lv_iload hx hb dX12_wedgesOf_71 (lv_at hl 0 rfl) ?_
      refine lv_istore (lv' := [(7, .int r1), (6, .int r4), (5, .int r3), (4, .int r2), (3, .int r1), (0, .ref (a 0)), (1, .int x1), (2, .int x2)]) hx hb dX12_wedgesOf_73 hl (by decide) rfl (fun ls hl => ?_)
      refine lv_iload hx hb dX12_wedgesOf_75 (lv_at hl 1 rfl) ?_
      refine lv_iload hx hb dX12_wedgesOf_77 (lv_at hl 0 rfl) ?_
      refine lv_icmp_le (tgt := 87) hx hb dX12_wedgesOf_79 (by decide) (fun c_10 => ?_) (fun c_10 => ?_)
      · have hf := ifp c_10 hf
        refine lv_iload hx hb dX12_wedgesOf_87 (lv_at hl 0 rfl) ?_
        refine lv_istore (lv' := [(7, .int r1), (6, .int r4), (5, .int r3), (4, .int r2), (3, .int r1), (0, .ref (a 0)), (1, .int x1), (2, .int x2)]) hx hb dX12_wedgesOf_89 hl (by decide) rfl (fun ls hl => ?_)
        refine lv_iconst (v := 4) hx hb dX12_wedgesOf_91 (by decide) ?_
        refine lv_iload hx hb dX12_wedgesOf_92 (lv_at hl 0 rfl) ?_
        refine lv_imul hx hb dX12_wedgesOf_94 ?_
        refine lv_iload_n hx hb dX12_wedgesOf_95 rfl (lv_at hl 4 rfl) ?_
        refine lv_isub hx hb dX12_wedgesOf_96 ?_
        refine lv_iload hx hb dX12_wedgesOf_97 (lv_at hl 3 rfl) ?_
        refine lv_isub hx hb dX12_wedgesOf_99 ?_
        refine lv_iload hx hb dX12_wedgesOf_100 (lv_at hl 2 rfl) ?_
        refine lv_isub hx hb dX12_wedgesOf_102 ?_
        refine lv_iload hx hb dX12_wedgesOf_103 (lv_at hl 1 rfl) ?_
        refine lv_isub hx hb dX12_wedgesOf_105 ?_
        obtain rfl := Option.some.inj hf
        exact retR C dX12_wedgesOf_106
      · have hf := ifn c_10 hf
        refine lv_iload hx hb dX12_wedgesOf_82 (lv_at hl 1 rfl) ?_
        refine lv_goto (tgt := 89) hx hb dX12_wedgesOf_84 (by decide) ?_
        refine lv_istore (lv' := [(7, .int r4), (6, .int r4), (5, .int r3), (4, .int r2), (3, .int r1), (0, .ref (a 0)), (1, .int x1), (2, .int x2)]) hx hb dX12_wedgesOf_89 hl (by decide) rfl (fun ls hl => ?_)
        refine lv_iconst (v := 4) hx hb dX12_wedgesOf_91 (by decide) ?_
        refine lv_iload hx hb dX12_wedgesOf_92 (lv_at hl 0 rfl) ?_
        refine lv_imul hx hb dX12_wedgesOf_94 ?_
        refine lv_iload_n hx hb dX12_wedgesOf_95 rfl (lv_at hl 4 rfl) ?_
        refine lv_isub hx hb dX12_wedgesOf_96 ?_
        refine lv_iload hx hb dX12_wedgesOf_97 (lv_at hl 3 rfl) ?_
        refine lv_isub hx hb dX12_wedgesOf_99 ?_
        refine lv_iload hx hb dX12_wedgesOf_100 (lv_at hl 2 rfl) ?_
        refine lv_isub hx hb dX12_wedgesOf_102 ?_
        refine lv_iload hx hb dX12_wedgesOf_103 (lv_at hl 1 rfl) ?_
        refine lv_isub hx hb dX12_wedgesOf_105 ?_
        obtain rfl := Option.some.inj hf
        exact retR C dX12_wedgesOf_106
    · have hf := ifn c_9 hf
      refine lv_iload hx hb dX12_wedgesOf_66 (lv_at hl 2 rfl) ?_
      refine lv_goto (tgt := 73) hx hb dX12_wedgesOf_68 (by decide) ?_
      refine lv_istore (lv' := [(7, .int r3), (6, .int r4), (5, .int r3), (4, .int r2), (3, .int r1), (0, .ref (a 0)), (1, .int x1), (2, .int x2)]) hx hb dX12_wedgesOf_73 hl (by decide) rfl (fun ls hl => ?_)
      refine lv_iload hx hb dX12_wedgesOf_75 (lv_at hl 1 rfl) ?_
      refine lv_iload hx hb dX12_wedgesOf_77 (lv_at hl 0 rfl) ?_
      refine lv_icmp_le (tgt := 87) hx hb dX12_wedgesOf_79 (by decide) (fun c_11 => ?_) (fun c_11 => ?_)
      · have hf := ifp c_11 hf
        refine lv_iload hx hb dX12_wedgesOf_87 (lv_at hl 0 rfl) ?_
        refine lv_istore (lv' := [(7, .int r3), (6, .int r4), (5, .int r3), (4, .int r2), (3, .int r1), (0, .ref (a 0)), (1, .int x1), (2, .int x2)]) hx hb dX12_wedgesOf_89 hl (by decide) rfl (fun ls hl => ?_)
        refine lv_iconst (v := 4) hx hb dX12_wedgesOf_91 (by decide) ?_
        refine lv_iload hx hb dX12_wedgesOf_92 (lv_at hl 0 rfl) ?_
        refine lv_imul hx hb dX12_wedgesOf_94 ?_
        refine lv_iload_n hx hb dX12_wedgesOf_95 rfl (lv_at hl 4 rfl) ?_
        refine lv_isub hx hb dX12_wedgesOf_96 ?_
        refine lv_iload hx hb dX12_wedgesOf_97 (lv_at hl 3 rfl) ?_
        refine lv_isub hx hb dX12_wedgesOf_99 ?_
        refine lv_iload hx hb dX12_wedgesOf_100 (lv_at hl 2 rfl) ?_
        refine lv_isub hx hb dX12_wedgesOf_102 ?_
        refine lv_iload hx hb dX12_wedgesOf_103 (lv_at hl 1 rfl) ?_
        refine lv_isub hx hb dX12_wedgesOf_105 ?_
        obtain rfl := Option.some.inj hf
        exact retR C dX12_wedgesOf_106
      · have hf := ifn c_11 hf
        refine lv_iload hx hb dX12_wedgesOf_82 (lv_at hl 1 rfl) ?_
        refine lv_goto (tgt := 89) hx hb dX12_wedgesOf_84 (by decide) ?_
        refine lv_istore (lv' := [(7, .int r4), (6, .int r4), (5, .int r3), (4, .int r2), (3, .int r1), (0, .ref (a 0)), (1, .int x1), (2, .int x2)]) hx hb dX12_wedgesOf_89 hl (by decide) rfl (fun ls hl => ?_)
        refine lv_iconst (v := 4) hx hb dX12_wedgesOf_91 (by decide) ?_
        refine lv_iload hx hb dX12_wedgesOf_92 (lv_at hl 0 rfl) ?_
        refine lv_imul hx hb dX12_wedgesOf_94 ?_
        refine lv_iload_n hx hb dX12_wedgesOf_95 rfl (lv_at hl 4 rfl) ?_
        refine lv_isub hx hb dX12_wedgesOf_96 ?_
        refine lv_iload hx hb dX12_wedgesOf_97 (lv_at hl 3 rfl) ?_
        refine lv_isub hx hb dX12_wedgesOf_99 ?_
        refine lv_iload hx hb dX12_wedgesOf_100 (lv_at hl 2 rfl) ?_
        refine lv_isub hx hb dX12_wedgesOf_102 ?_
        refine lv_iload hx hb dX12_wedgesOf_103 (lv_at hl 1 rfl) ?_
        refine lv_isub hx hb dX12_wedgesOf_105 ?_
        obtain rfl := Option.some.inj hf
        exact retR C dX12_wedgesOf_106
set_option maxHeartbeats 4000000 in
set_option maxRecDepth 100000 in
theorem c_X12_wedges (l : Launch) (D : va_G) (g : Nat → ClassId) (a : Nat → Nat) (M : Mem) (x1 : Int32) (x2 : Int32) (r : Int32) (hf : f_X12_wedges M x1 x2 = some r) : Met l yX12_wedges (cW yX12_wedges cX12_wedges 3 (some .int)) (rmv 3 73) (Pw D (tyL g) (wM g a M) [.ref (a 0), .int x1, .int x2]) (RdQ (.int r)) 0 0 nof := by
  unfold f_X12_wedges at hf
  refine met_in (by decide) (Nat.le_of_ble_eq_true rfl) ?_
  intro p e s m args below meth c ls C hP hl
  have C : Cx p s m args meth c cX12_wedges 3 (some .int) RX12 D (tyL g) := C
  obtain ⟨hx, hb, hr, hml, hown, ht, hlocks, hK, hN⟩ := id C
  have hl : lv_has ls 3 [(0, .ref (a 0)), (1, .int x1), (2, .int x2)] := hl
  refine lv_aload_n hx hb dX12_wedges_0 rfl (lv_at hl 0 rfl) ?_
  refine lv_iload_n hx hb dX12_wedges_1 rfl (lv_at hl 1 rfl) ?_
  obtain ⟨r1, e_1, hf⟩ := bns hf
  refine kR (rV (rest := []) C (c_X12_isPlace l D g a M x1 r1 e_1) ok_X12_isPlace wd_913 hP 0 (aM_0 g a M) rfl ⟨rfl, rfl, Nat.le_of_ble_eq_true rfl, Nat.le_of_ble_eq_true rfl⟩ rfl hl.1 rfl (Nat.le_of_ble_eq_true rfl) dX12_wedges_2 ⟨Nat.le_of_ble_eq_true rfl, Nat.le_of_ble_eq_true rfl⟩) ?_
  refine lv_if_eq (tgt := 24) hx hb dX12_wedges_5 (by decide) (fun c_2 => ?_) (fun c_2 => ?_)
  · have hf := ifp c_2 hf
    refine lv_iconst (v := (-1)) hx hb dX12_wedges_24 (by decide) ?_
    obtain rfl := Option.some.inj hf
    exact retR C dX12_wedges_25
  · have hf := ifn c_2 hf
    refine lv_iload_n hx hb dX12_wedges_8 rfl (lv_at hl 2 rfl) ?_
    obtain ⟨r3, e_3, hf⟩ := bns hf
    refine kR (rS (rest := []) C (c_X12_isMonth l D (tyL g) (wM g a M) x2 r3 e_3) ok_X12_isMonth wd_858 hP ⟨rfl, rfl, Nat.le_of_ble_eq_true rfl, Nat.le_of_ble_eq_true rfl⟩ rfl hl.1 rfl (Nat.le_of_ble_eq_true rfl) dX12_wedges_9 ⟨Nat.le_of_ble_eq_true rfl, Nat.le_of_ble_eq_true rfl⟩) ?_
    refine lv_if_eq (tgt := 24) hx hb dX12_wedges_12 (by decide) (fun c_4 => ?_) (fun c_4 => ?_)
    · have hf := ifp c_4 hf
      refine lv_iconst (v := (-1)) hx hb dX12_wedges_24 (by decide) ?_
      obtain rfl := Option.some.inj hf
      exact retR C dX12_wedges_25
    · have hf := ifn c_4 hf
      refine lv_aload_n hx hb dX12_wedges_15 rfl (lv_at hl 0 rfl) ?_
      refine lv_iload_n hx hb dX12_wedges_16 rfl (lv_at hl 1 rfl) ?_
      refine lv_iload_n hx hb dX12_wedges_17 rfl (lv_at hl 2 rfl) ?_
      obtain ⟨r5, e_5, hf⟩ := bns hf
      refine kR (rV (rest := []) C (c_X12_wedgesOf l D g a M x1 x2 r5 e_5) ok_X12_wedgesOf wd_917 hP 0 (aM_0 g a M) rfl ⟨rfl, rfl, Nat.le_of_ble_eq_true rfl, Nat.le_of_ble_eq_true rfl⟩ rfl hl.1 rfl (Nat.le_of_ble_eq_true rfl) dX12_wedges_18 ⟨Nat.le_of_ble_eq_true rfl, Nat.le_of_ble_eq_true rfl⟩) ?_
      refine lv_goto (tgt := 25) hx hb dX12_wedges_21 (by decide) ?_
      obtain rfl := Option.some.inj hf
      exact retR C dX12_wedges_25
set_option maxHeartbeats 4000000 in
set_option maxRecDepth 100000 in
theorem w_X12_best_l36 {p : Program} {l : Launch} {e : Env} {s : State} {m : MethodId} {args : Array Value} {below : List Frame} {meth : Method} {c : Code} {D : va_G} {g : Nat → ClassId} {a : Nat → Nat} (C : Cx p s m args meth c cX12_best 5 (some .int) RX12 D (tyL g)) (N : Nat) (M : Mem) (hP : va_P D clL (wM g a M) s.heap) (x1 : Int32) (x2 : Int32) (r : Int32) :
    ∀ (n : Nat) (x3 : Int32) (x4 : Int32), ∀ (ls : Array Slot), lv_has ls 5 [(0, .ref (a 0)), (1, .int x1), (2, .int x2), (3, .int x3), (4, .int x4)] → f_X12_best_l36 N M x1 x2 n x3 x4 = some r → W p l e (rmv 3 73) s m args below meth c s.heap [] 0 0 (MQ below (RdQ (.int r)) args s 0 0 nof) (F0 m 36 ls []) := by
  obtain ⟨hx, hb, hr, hml, hown, ht, hlocks, hK, hN⟩ := id C
  intro n
  induction n with
  | zero =>
    intro x3 x4 ls hl hf
    exact nos hf
  | succ n ih =>
    intro x3 x4 ls hl hf
    rw [f_X12_best_l36] at hf
    refine lv_iload hx hb dX12_best_36 (lv_at hl 4 rfl) ?_
    refine lv_aload_n hx hb dX12_best_38 rfl (lv_at hl 0 rfl) ?_
    obtain ⟨r7, e_7, hf⟩ := bns hf
    refine kR (rV (rest := [.int x4]) C (c_X12_all l D g a M r7 e_7) ok_X12_all wd_842 hP 0 (aM_0 g a M) rfl ⟨rfl, rfl, Nat.le_of_ble_eq_true rfl, Nat.le_of_ble_eq_true rfl⟩ rfl hl.1 rfl (Nat.le_of_ble_eq_true rfl) dX12_best_39 ⟨Nat.le_of_ble_eq_true rfl, Nat.le_of_ble_eq_true rfl⟩) ?_
    refine lv_icmp_ge (tgt := 83) hx hb dX12_best_42 (by decide) (fun c_8 => ?_) (fun c_8 => ?_)
    · have hf := ifp c_8 hf
      refine lv_iload_n hx hb dX12_best_83 rfl (lv_at hl 2 rfl) ?_
      refine lv_if_ne (tgt := 91) hx hb dX12_best_84 (by decide) (fun c_9 => ?_) (fun c_9 => ?_)
      · have hf := ifn c_9 hf
        refine lv_aload_n hx hb dX12_best_91 rfl (lv_at hl 0 rfl) ?_
        refine lv_iload_n hx hb dX12_best_92 rfl (lv_at hl 3 rfl) ?_
        refine lv_iload_n hx hb dX12_best_93 rfl (lv_at hl 1 rfl) ?_
        obtain ⟨r10, e_10, hf⟩ := bns hf
        refine kR (rV (rest := []) C (c_X12_wedgesOf l D g a M x3 x1 r10 e_10) ok_X12_wedgesOf wd_917 hP 0 (aM_0 g a M) rfl ⟨rfl, rfl, Nat.le_of_ble_eq_true rfl, Nat.le_of_ble_eq_true rfl⟩ rfl hl.1 rfl (Nat.le_of_ble_eq_true rfl) dX12_best_94 ⟨Nat.le_of_ble_eq_true rfl, Nat.le_of_ble_eq_true rfl⟩) ?_
        obtain rfl := Option.some.inj hf
        exact retR C dX12_best_97
      · have hf := ifp c_9 hf
        refine lv_iload_n hx hb dX12_best_87 rfl (lv_at hl 3 rfl) ?_
        refine lv_goto (tgt := 97) hx hb dX12_best_88 (by decide) ?_
        obtain rfl := Option.some.inj hf
        exact retR C dX12_best_97
    · have hf := ifn c_8 hf
      refine lv_aload_n hx hb dX12_best_45 rfl (lv_at hl 0 rfl) ?_
      refine lv_iload hx hb dX12_best_46 (lv_at hl 4 rfl) ?_
      obtain ⟨r11, e_11, hf⟩ := bns hf
      refine kR (rV (rest := []) C (c_X12_isPlace l D g a M x4 r11 e_11) ok_X12_isPlace wd_913 hP 0 (aM_0 g a M) rfl ⟨rfl, rfl, Nat.le_of_ble_eq_true rfl, Nat.le_of_ble_eq_true rfl⟩ rfl hl.1 rfl (Nat.le_of_ble_eq_true rfl) dX12_best_48 ⟨Nat.le_of_ble_eq_true rfl, Nat.le_of_ble_eq_true rfl⟩) ?_
      refine lv_if_eq (tgt := 75) hx hb dX12_best_51 (by decide) (fun c_12 => ?_) (fun c_12 => ?_)
      · have hf := ifp c_12 hf
        refine lv_iload_n hx hb dX12_best_75 rfl (lv_at hl 3 rfl) ?_
        refine lv_istore_n (lv' := [(3, .int x3), (0, .ref (a 0)), (1, .int x1), (2, .int x2), (4, .int x4)]) hx hb dX12_best_76 rfl hl (by decide) rfl (fun ls hl => ?_)
        refine lv_iinc (v := (x4 + 1)) (lv' := [(4, .int (x4 + 1)), (3, .int x3), (0, .ref (a 0)), (1, .int x1), (2, .int x2)]) hx hb dX12_best_77 hl (k := 4) rfl rfl (by decide) rfl (fun ls hl => ?_)
        refine lv_goto (tgt := 36) hx hb dX12_best_80 (by decide) ?_
        exact ih x3 (x4 + 1) ls (lv_sub hl [2, 3, 4, 1, 0] rfl) hf
      · have hf := ifn c_12 hf
        refine lv_aload_n hx hb dX12_best_54 rfl (lv_at hl 0 rfl) ?_
        refine lv_iload hx hb dX12_best_55 (lv_at hl 4 rfl) ?_
        refine lv_iload_n hx hb dX12_best_57 rfl (lv_at hl 1 rfl) ?_
        obtain ⟨r13, e_13, hf⟩ := bns hf
        refine kR (rV (rest := []) C (c_X12_wedgesOf l D g a M x4 x1 r13 e_13) ok_X12_wedgesOf wd_917 hP 0 (aM_0 g a M) rfl ⟨rfl, rfl, Nat.le_of_ble_eq_true rfl, Nat.le_of_ble_eq_true rfl⟩ rfl hl.1 rfl (Nat.le_of_ble_eq_true rfl) dX12_best_58 ⟨Nat.le_of_ble_eq_true rfl, Nat.le_of_ble_eq_true rfl⟩) ?_
        refine lv_aload_n hx hb dX12_best_61 rfl (lv_at hl 0 rfl) ?_
        refine lv_iload_n hx hb dX12_best_62 rfl (lv_at hl 3 rfl) ?_
        refine lv_iload_n hx hb dX12_best_63 rfl (lv_at hl 1 rfl) ?_
        obtain ⟨r14, e_14, hf⟩ := bns hf
        refine kR (rV (rest := [.int r13]) C (c_X12_wedgesOf l D g a M x3 x1 r14 e_14) ok_X12_wedgesOf wd_917 hP 0 (aM_0 g a M) rfl ⟨rfl, rfl, Nat.le_of_ble_eq_true rfl, Nat.le_of_ble_eq_true rfl⟩ rfl hl.1 rfl (Nat.le_of_ble_eq_true rfl) dX12_best_64 ⟨Nat.le_of_ble_eq_true rfl, Nat.le_of_ble_eq_true rfl⟩) ?_
        refine lv_icmp_ge (tgt := 75) hx hb dX12_best_67 (by decide) (fun c_15 => ?_) (fun c_15 => ?_)
        · have hf := ifp c_15 hf
          refine lv_iload_n hx hb dX12_best_75 rfl (lv_at hl 3 rfl) ?_
          refine lv_istore_n (lv' := [(3, .int x3), (0, .ref (a 0)), (1, .int x1), (2, .int x2), (4, .int x4)]) hx hb dX12_best_76 rfl hl (by decide) rfl (fun ls hl => ?_)
          refine lv_iinc (v := (x4 + 1)) (lv' := [(4, .int (x4 + 1)), (3, .int x3), (0, .ref (a 0)), (1, .int x1), (2, .int x2)]) hx hb dX12_best_77 hl (k := 4) rfl rfl (by decide) rfl (fun ls hl => ?_)
          refine lv_goto (tgt := 36) hx hb dX12_best_80 (by decide) ?_
          exact ih x3 (x4 + 1) ls (lv_sub hl [2, 3, 4, 1, 0] rfl) hf
        · have hf := ifn c_15 hf
          refine lv_iload hx hb dX12_best_70 (lv_at hl 4 rfl) ?_
          refine lv_goto (tgt := 76) hx hb dX12_best_72 (by decide) ?_
          refine lv_istore_n (lv' := [(3, .int x4), (0, .ref (a 0)), (1, .int x1), (2, .int x2), (4, .int x4)]) hx hb dX12_best_76 rfl hl (by decide) rfl (fun ls hl => ?_)
          refine lv_iinc (v := (x4 + 1)) (lv' := [(4, .int (x4 + 1)), (3, .int x4), (0, .ref (a 0)), (1, .int x1), (2, .int x2)]) hx hb dX12_best_77 hl (k := 4) rfl rfl (by decide) rfl (fun ls hl => ?_)
          refine lv_goto (tgt := 36) hx hb dX12_best_80 (by decide) ?_
          exact ih x4 (x4 + 1) ls (lv_sub hl [2, 3, 4, 1, 0] rfl) hf
set_option maxHeartbeats 4000000 in
set_option maxRecDepth 100000 in
theorem c_X12_best (l : Launch) (D : va_G) (g : Nat → ClassId) (a : Nat → Nat) (N : Nat) (M : Mem) (x1 : Int32) (x2 : Int32) (r : Int32) (hf : f_X12_best N M x1 x2 = some r) : Met l yX12_best (cW yX12_best cX12_best 5 (some .int)) (rmv 3 73) (Pw D (tyL g) (wM g a M) [.ref (a 0), .int x1, .int x2]) (RdQ (.int r)) 0 0 nof := by
  unfold f_X12_best at hf
  refine met_in (by decide) (Nat.le_of_ble_eq_true rfl) ?_
  intro p e s m args below meth c ls C hP hl
  have C : Cx p s m args meth c cX12_best 5 (some .int) RX12 D (tyL g) := C
  obtain ⟨hx, hb, hr, hml, hown, ht, hlocks, hK, hN⟩ := id C
  have hl : lv_has ls 5 [(0, .ref (a 0)), (1, .int x1), (2, .int x2)] := hl
  refine lv_iload_n hx hb dX12_best_0 rfl (lv_at hl 1 rfl) ?_
  obtain ⟨r1, e_1, hf⟩ := bns hf
  refine kR (rS (rest := []) C (c_X12_isMonth l D (tyL g) (wM g a M) x1 r1 e_1) ok_X12_isMonth wd_858 hP ⟨rfl, rfl, Nat.le_of_ble_eq_true rfl, Nat.le_of_ble_eq_true rfl⟩ rfl hl.1 rfl (Nat.le_of_ble_eq_true rfl) dX12_best_1 ⟨Nat.le_of_ble_eq_true rfl, Nat.le_of_ble_eq_true rfl⟩) ?_
  refine lv_if_ne (tgt := 9) hx hb dX12_best_4 (by decide) (fun c_2 => ?_) (fun c_2 => ?_)
  · have hf := ifn c_2 hf
    refine lv_iload_n hx hb dX12_best_9 rfl (lv_at hl 2 rfl) ?_
    refine lv_iconst (v := 0) hx hb dX12_best_10 (by decide) ?_
    refine lv_iconst (v := 1) hx hb dX12_best_11 (by decide) ?_
    obtain ⟨r3, e_3, hf⟩ := bns hf
    refine kR (rS (rest := []) C (c_X12_within l D (tyL g) (wM g a M) x2 0 1 r3 e_3) ok_X12_within wd_816 hP ⟨rfl, rfl, Nat.le_of_ble_eq_true rfl, Nat.le_of_ble_eq_true rfl⟩ rfl hl.1 rfl (Nat.le_of_ble_eq_true rfl) dX12_best_12 ⟨Nat.le_of_ble_eq_true rfl, Nat.le_of_ble_eq_true rfl⟩) ?_
    refine lv_if_ne (tgt := 21) hx hb dX12_best_15 (by decide) (fun c_4 => ?_) (fun c_4 => ?_)
    · have hf := ifn c_4 hf
      refine lv_aload_n hx hb dX12_best_21 rfl (lv_at hl 0 rfl) ?_
      obtain ⟨r5, e_5, hf⟩ := bns hf
      refine kR (rV (rest := []) C (c_X12_all l D g a M r5 e_5) ok_X12_all wd_842 hP 0 (aM_0 g a M) rfl ⟨rfl, rfl, Nat.le_of_ble_eq_true rfl, Nat.le_of_ble_eq_true rfl⟩ rfl hl.1 rfl (Nat.le_of_ble_eq_true rfl) dX12_best_22 ⟨Nat.le_of_ble_eq_true rfl, Nat.le_of_ble_eq_true rfl⟩) ?_
      refine lv_if_ne (tgt := 31) hx hb dX12_best_25 (by decide) (fun c_6 => ?_) (fun c_6 => ?_)
      · have hf := ifn c_6 hf
        refine lv_iconst (v := 0) hx hb dX12_best_31 (by decide) ?_
        refine lv_istore_n (lv' := [(3, .int 0), (0, .ref (a 0)), (1, .int x1), (2, .int x2)]) hx hb dX12_best_32 rfl hl (by decide) rfl (fun ls hl => ?_)
        refine lv_iconst (v := 1) hx hb dX12_best_33 (by decide) ?_
        refine lv_istore (lv' := [(4, .int 1), (3, .int 0), (0, .ref (a 0)), (1, .int x1), (2, .int x2)]) hx hb dX12_best_34 hl (by decide) rfl (fun ls hl => ?_)
        exact w_X12_best_l36 C N M hP x1 x2 r N 0 1 ls (lv_sub hl [2, 3, 4, 1, 0] rfl) hf
      · have hf := ifp c_6 hf
        refine lv_bipush (v := (-3)) hx hb dX12_best_28 (by decide) ?_
        obtain rfl := Option.some.inj hf
        exact retR C dX12_best_30
    · have hf := ifp c_4 hf
      refine lv_bipush (v := (-2)) hx hb dX12_best_18 (by decide) ?_
      obtain rfl := Option.some.inj hf
      exact retR C dX12_best_20
  · have hf := ifp c_2 hf
    refine lv_iconst (v := (-1)) hx hb dX12_best_7 (by decide) ?_
    obtain rfl := Option.some.inj hf
    exact retR C dX12_best_8
set_option maxHeartbeats 4000000 in
set_option maxRecDepth 100000 in
theorem c_X12_areApart (l : Launch) (D : va_G) (g : Nat → ClassId) (a : Nat → Nat) (M : Mem) (x1 : Int32) (x2 : Int32) (r : Int32) (hf : f_X12_areApart M x1 x2 = some r) : Met l yX12_areApart (cW yX12_areApart cX12_areApart 3 (some .boolean)) (rmv 1 20) (Pw D (tyL g) (wM g a M) [.ref (a 0), .int x1, .int x2]) (RdQ (.int r)) 0 0 nof := by
  unfold f_X12_areApart at hf
  refine met_in (by decide) (Nat.le_of_ble_eq_true rfl) ?_
  intro p e s m args below meth c ls C hP hl
  have C : Cx p s m args meth c cX12_areApart 3 (some .boolean) RX12 D (tyL g) := C
  obtain ⟨hx, hb, hr, hml, hown, ht, hlocks, hK, hN⟩ := id C
  have hl : lv_has ls 3 [(0, .ref (a 0)), (1, .int x1), (2, .int x2)] := hl
  refine lv_iload_n hx hb dX12_areApart_0 rfl (lv_at hl 1 rfl) ?_
  refine lv_aload_n hx hb dX12_areApart_1 rfl (lv_at hl 0 rfl) ?_
  refine fg_X12_75 C hP dX12_areApart_2 ?_
  obtain ⟨h_1, hf⟩ := ifs hf
  refine lv_idiv hx hb dX12_areApart_5 h_1 ?_
  refine lv_iload_n hx hb dX12_areApart_6 rfl (lv_at hl 2 rfl) ?_
  refine lv_aload_n hx hb dX12_areApart_7 rfl (lv_at hl 0 rfl) ?_
  refine fg_X12_75 C hP dX12_areApart_8 ?_
  refine lv_idiv hx hb dX12_areApart_11 h_1 ?_
  refine lv_isub hx hb dX12_areApart_12 ?_
  obtain ⟨r2, e_2, hf⟩ := bns hf
  refine kR (rS (rest := []) C (c_X12_size l D (tyL g) (wM g a M) ((x1 / (M 0 6)) - (x2 / (M 0 6))) r2 e_2) ok_X12_size wd_898 hP ⟨rfl, rfl, Nat.le_of_ble_eq_true rfl, Nat.le_of_ble_eq_true rfl⟩ rfl hl.1 rfl (Nat.le_of_ble_eq_true rfl) dX12_areApart_13 ⟨Nat.le_of_ble_eq_true rfl, Nat.le_of_ble_eq_true rfl⟩) ?_
  refine lv_iconst (v := 1) hx hb dX12_areApart_16 (by decide) ?_
  refine lv_icmp_gt (tgt := 40) hx hb dX12_areApart_17 (by decide) (fun c_3 => ?_) (fun c_3 => ?_)
  · have hf := ifp c_3 hf
    refine lv_iconst (v := 1) hx hb dX12_areApart_40 (by decide) ?_
    refine lv_goto (tgt := 45) hx hb dX12_areApart_41 (by decide) ?_
    obtain rfl := Option.some.inj hf
    exact retRz C (Or.inr rfl) dX12_areApart_45
  · have hf := ifn c_3 hf
    refine lv_iload_n hx hb dX12_areApart_20 rfl (lv_at hl 1 rfl) ?_
    refine lv_aload_n hx hb dX12_areApart_21 rfl (lv_at hl 0 rfl) ?_
    refine fg_X12_75 C hP dX12_areApart_22 ?_
    refine lv_irem hx hb dX12_areApart_25 h_1 ?_
    refine lv_iload_n hx hb dX12_areApart_26 rfl (lv_at hl 2 rfl) ?_
    refine lv_aload_n hx hb dX12_areApart_27 rfl (lv_at hl 0 rfl) ?_
    refine fg_X12_75 C hP dX12_areApart_28 ?_
    refine lv_irem hx hb dX12_areApart_31 h_1 ?_
    refine lv_isub hx hb dX12_areApart_32 ?_
    obtain ⟨r4, e_4, hf⟩ := bns hf
    refine kR (rS (rest := []) C (c_X12_size l D (tyL g) (wM g a M) ((rem32 x1 (M 0 6)) - (rem32 x2 (M 0 6))) r4 e_4) ok_X12_size wd_898 hP ⟨rfl, rfl, Nat.le_of_ble_eq_true rfl, Nat.le_of_ble_eq_true rfl⟩ rfl hl.1 rfl (Nat.le_of_ble_eq_true rfl) dX12_areApart_33 ⟨Nat.le_of_ble_eq_true rfl, Nat.le_of_ble_eq_true rfl⟩) ?_
    refine lv_iconst (v := 1) hx hb dX12_areApart_36 (by decide) ?_
    refine lv_icmp_le (tgt := 44) hx hb dX12_areApart_37 (by decide) (fun c_5 => ?_) (fun c_5 => ?_)
    · have hf := ifp c_5 hf
      refine lv_iconst (v := 0) hx hb dX12_areApart_44 (by decide) ?_
      obtain rfl := Option.some.inj hf
      exact retRz C (Or.inl rfl) dX12_areApart_45
    · have hf := ifn c_5 hf
      refine lv_iconst (v := 1) hx hb dX12_areApart_40 (by decide) ?_
      refine lv_goto (tgt := 45) hx hb dX12_areApart_41 (by decide) ?_
      obtain rfl := Option.some.inj hf
      exact retRz C (Or.inr rfl) dX12_areApart_45
set_option maxHeartbeats 4000000 in
set_option maxRecDepth 100000 in
theorem w_X12_two_l60 {p : Program} {l : Launch} {e : Env} {s : State} {m : MethodId} {args : Array Value} {below : List Frame} {meth : Method} {c : Code} {D : va_G} {g : Nat → ClassId} {a : Nat → Nat} (C : Cx p s m args meth c cX12_two 9 (some .int) RX12 D (tyL g)) (N : Nat) (M : Mem) (hP : va_P D clL (wM g a M) s.heap) (x1 : Int32) (x6 : Int32) (x2 : Int32) (r : Int32) (kc : Int32 → Int32 → Int32 → Option (Int32)) (hkc : ∀ (y3 : Int32) (y4 : Int32) (y5 : Int32), ∀ (ls : Array Slot), lv_has ls 9 [(0, .ref (a 0)), (1, .int x1), (2, .int x2), (3, .int y3), (4, .int y4), (5, .int y5), (6, .int x6)] → kc y3 y4 y5 = some r → W p l e (rmv 3 73) s m args below meth c s.heap [] 0 0 (MQ below (RdQ (.int r)) args s 0 0 nof) (F0 m 145 ls [])) :
    ∀ (n : Nat) (x3 : Int32) (x4 : Int32) (x5 : Int32) (x7 : Int32), ∀ (ls : Array Slot), lv_has ls 9 [(0, .ref (a 0)), (1, .int x1), (2, .int x2), (3, .int x3), (4, .int x4), (5, .int x5), (6, .int x6), (7, .int x7)] → f_X12_two_l60 kc N M x1 x6 n x3 x4 x5 x7 = some r → W p l e (rmv 3 73) s m args below meth c s.heap [] 0 0 (MQ below (RdQ (.int r)) args s 0 0 nof) (F0 m 60 ls []) := by
  obtain ⟨hx, hb, hr, hml, hown, ht, hlocks, hK, hN⟩ := id C
  intro n
  induction n with
  | zero =>
    intro x3 x4 x5 x7 ls hl hf
    exact nos hf
  | succ n ih =>
    intro x3 x4 x5 x7 ls hl hf
    rw [f_X12_two_l60] at hf
    refine lv_iload hx hb dX12_two_60 (lv_at hl 7 rfl) ?_
    refine lv_aload_n hx hb dX12_two_62 rfl (lv_at hl 0 rfl) ?_
    obtain ⟨r12, e_12, hf⟩ := bns hf
    refine kR (rV (rest := [.int x7]) C (c_X12_all l D g a M r12 e_12) ok_X12_all wd_842 hP 0 (aM_0 g a M) rfl ⟨rfl, rfl, Nat.le_of_ble_eq_true rfl, Nat.le_of_ble_eq_true rfl⟩ rfl hl.1 rfl (Nat.le_of_ble_eq_true rfl) dX12_two_63 ⟨Nat.le_of_ble_eq_true rfl, Nat.le_of_ble_eq_true rfl⟩) ?_
    refine lv_icmp_ge (tgt := 145) hx hb dX12_two_66 (by decide) (fun c_13 => ?_) (fun c_13 => ?_)
    · have hf := ifp c_13 hf
      exact hkc x3 x4 x5 ls (lv_sub hl [0, 1, 2, 3, 4, 5, 6] rfl) hf
    · have hf := ifn c_13 hf
      refine lv_aload_n hx hb dX12_two_69 rfl (lv_at hl 0 rfl) ?_
      refine lv_iload hx hb dX12_two_70 (lv_at hl 6 rfl) ?_
      obtain ⟨r14, e_14, hf⟩ := bns hf
      refine kR (rV (rest := []) C (c_X12_isPlace l D g a M x6 r14 e_14) ok_X12_isPlace wd_913 hP 0 (aM_0 g a M) rfl ⟨rfl, rfl, Nat.le_of_ble_eq_true rfl, Nat.le_of_ble_eq_true rfl⟩ rfl hl.1 rfl (Nat.le_of_ble_eq_true rfl) dX12_two_72 ⟨Nat.le_of_ble_eq_true rfl, Nat.le_of_ble_eq_true rfl⟩) ?_
      refine lv_if_eq (tgt := 145) hx hb dX12_two_75 (by decide) (fun c_15 => ?_) (fun c_15 => ?_)
      · have hf := ifp c_15 hf
        exact hkc x3 x4 x5 ls (lv_sub hl [0, 1, 2, 3, 4, 5, 6] rfl) hf
      · have hf := ifn c_15 hf
        refine lv_aload_n hx hb dX12_two_78 rfl (lv_at hl 0 rfl) ?_
        refine lv_iload hx hb dX12_two_79 (lv_at hl 7 rfl) ?_
        obtain ⟨r16, e_16, hf⟩ := bns hf
        refine kR (rV (rest := []) C (c_X12_isPlace l D g a M x7 r16 e_16) ok_X12_isPlace wd_913 hP 0 (aM_0 g a M) rfl ⟨rfl, rfl, Nat.le_of_ble_eq_true rfl, Nat.le_of_ble_eq_true rfl⟩ rfl hl.1 rfl (Nat.le_of_ble_eq_true rfl) dX12_two_81 ⟨Nat.le_of_ble_eq_true rfl, Nat.le_of_ble_eq_true rfl⟩) ?_
        refine lv_if_eq (tgt := 139) hx hb dX12_two_84 (by decide) (fun c_17 => ?_) (fun c_17 => ?_)
        · have hf := ifp c_17 hf
          refine lv_iinc (v := (x7 + 1)) (lv' := [(7, .int (x7 + 1)), (0, .ref (a 0)), (1, .int x1), (2, .int x2), (3, .int x3), (4, .int x4), (5, .int x5), (6, .int x6)]) hx hb dX12_two_139 hl (k := 7) rfl rfl (by decide) rfl (fun ls hl => ?_)
          refine lv_goto (tgt := 60) hx hb dX12_two_142 (by decide) ?_
          exact ih x3 x4 x5 (x7 + 1) ls (lv_sub hl [1, 2, 3, 4, 5, 6, 7, 0] rfl) hf
        · have hf := ifn c_17 hf
          refine lv_aload_n hx hb dX12_two_87 rfl (lv_at hl 0 rfl) ?_
          refine lv_iload hx hb dX12_two_88 (lv_at hl 6 rfl) ?_
          refine lv_iload hx hb dX12_two_90 (lv_at hl 7 rfl) ?_
          obtain ⟨r18, e_18, hf⟩ := bns hf
          refine kR (rV (rest := []) C (c_X12_areApart l D g a M x6 x7 r18 e_18) ok_X12_areApart wd_929 hP 0 (aM_0 g a M) rfl ⟨rfl, rfl, Nat.le_of_ble_eq_true rfl, Nat.le_of_ble_eq_true rfl⟩ rfl hl.1 rfl (Nat.le_of_ble_eq_true rfl) dX12_two_92 ⟨Nat.le_of_ble_eq_true rfl, Nat.le_of_ble_eq_true rfl⟩) ?_
          refine lv_if_eq (tgt := 139) hx hb dX12_two_95 (by decide) (fun c_19 => ?_) (fun c_19 => ?_)
          · have hf := ifp c_19 hf
            refine lv_iinc (v := (x7 + 1)) (lv' := [(7, .int (x7 + 1)), (0, .ref (a 0)), (1, .int x1), (2, .int x2), (3, .int x3), (4, .int x4), (5, .int x5), (6, .int x6)]) hx hb dX12_two_139 hl (k := 7) rfl rfl (by decide) rfl (fun ls hl => ?_)
            refine lv_goto (tgt := 60) hx hb dX12_two_142 (by decide) ?_
            exact ih x3 x4 x5 (x7 + 1) ls (lv_sub hl [1, 2, 3, 4, 5, 6, 7, 0] rfl) hf
          · have hf := ifn c_19 hf
            refine lv_aload_n hx hb dX12_two_98 rfl (lv_at hl 0 rfl) ?_
            refine lv_iload hx hb dX12_two_99 (lv_at hl 6 rfl) ?_
            refine lv_iload_n hx hb dX12_two_101 rfl (lv_at hl 1 rfl) ?_
            obtain ⟨r20, e_20, hf⟩ := bns hf
            refine kR (rV (rest := []) C (c_X12_wedgesOf l D g a M x6 x1 r20 e_20) ok_X12_wedgesOf wd_917 hP 0 (aM_0 g a M) rfl ⟨rfl, rfl, Nat.le_of_ble_eq_true rfl, Nat.le_of_ble_eq_true rfl⟩ rfl hl.1 rfl (Nat.le_of_ble_eq_true rfl) dX12_two_102 ⟨Nat.le_of_ble_eq_true rfl, Nat.le_of_ble_eq_true rfl⟩) ?_
            refine lv_aload_n hx hb dX12_two_105 rfl (lv_at hl 0 rfl) ?_
            refine lv_iload hx hb dX12_two_106 (lv_at hl 7 rfl) ?_
            refine lv_iload_n hx hb dX12_two_108 rfl (lv_at hl 1 rfl) ?_
            obtain ⟨r21, e_21, hf⟩ := bns hf
            refine kR (rV (rest := [.int r20]) C (c_X12_wedgesOf l D g a M x7 x1 r21 e_21) ok_X12_wedgesOf wd_917 hP 0 (aM_0 g a M) rfl ⟨rfl, rfl, Nat.le_of_ble_eq_true rfl, Nat.le_of_ble_eq_true rfl⟩ rfl hl.1 rfl (Nat.le_of_ble_eq_true rfl) dX12_two_109 ⟨Nat.le_of_ble_eq_true rfl, Nat.le_of_ble_eq_true rfl⟩) ?_
            refine lv_iadd hx hb dX12_two_112 ?_
            refine lv_topi (fun z22 ez22 => ?_)
            have hf := nmr ez22 hf
            refine lv_istore (lv' := [(8, .int z22), (0, .ref (a 0)), (1, .int x1), (2, .int x2), (3, .int x3), (4, .int x4), (5, .int x5), (6, .int x6), (7, .int x7)]) hx hb dX12_two_113 hl (by decide) rfl (fun ls hl => ?_)
            refine lv_iload_n hx hb dX12_two_115 rfl (lv_at hl 4 rfl) ?_
            refine lv_bipush (v := (-9)) hx hb dX12_two_116 (by decide) ?_
            refine lv_icmp_eq (tgt := 128) hx hb dX12_two_118 (by decide) (fun c_23 => ?_) (fun c_23 => ?_)
            · have hf := ifp c_23 hf
              refine lv_iload hx hb dX12_two_128 (lv_at hl 7 rfl) ?_
              refine lv_istore_n (lv' := [(3, .int x6), (8, .int z22), (0, .ref (a 0)), (1, .int x1), (2, .int x2), (4, .int x4), (5, .int x5), (6, .int x6), (7, .int x7)]) hx hb dX12_two_130 rfl hl (by decide) rfl (fun ls hl => ?_)
              refine lv_iload hx hb dX12_two_131 (lv_at hl 8 rfl) ?_
              refine lv_istore (lv' := [(4, .int x7), (3, .int x6), (8, .int z22), (0, .ref (a 0)), (1, .int x1), (2, .int x2), (5, .int x5), (6, .int x6), (7, .int x7)]) hx hb dX12_two_133 hl (by decide) rfl (fun ls hl => ?_)
              refine lv_iload hx hb dX12_two_135 (lv_at hl 2 rfl) ?_
              refine lv_istore (lv' := [(5, .int z22), (4, .int x7), (3, .int x6), (8, .int z22), (0, .ref (a 0)), (1, .int x1), (2, .int x2), (6, .int x6), (7, .int x7)]) hx hb dX12_two_137 hl (by decide) rfl (fun ls hl => ?_)
              refine lv_iinc (v := (x7 + 1)) (lv' := [(7, .int (x7 + 1)), (5, .int z22), (4, .int x7), (3, .int x6), (8, .int z22), (0, .ref (a 0)), (1, .int x1), (2, .int x2), (6, .int x6)]) hx hb dX12_two_139 hl (k := 8) rfl rfl (by decide) rfl (fun ls hl => ?_)
              refine lv_goto (tgt := 60) hx hb dX12_two_142 (by decide) ?_
              exact ih x6 x7 z22 (x7 + 1) ls (lv_sub hl [5, 6, 7, 3, 2, 1, 8, 0] rfl) hf
            · have hf := ifn c_23 hf
              refine lv_iload hx hb dX12_two_121 (lv_at hl 0 rfl) ?_
              refine lv_iload hx hb dX12_two_123 (lv_at hl 6 rfl) ?_
              refine lv_icmp_ge (tgt := 139) hx hb dX12_two_125 (by decide) (fun c_24 => ?_) (fun c_24 => ?_)
              · have hf := ifp c_24 hf
                refine lv_iinc (v := (x7 + 1)) (lv' := [(7, .int (x7 + 1)), (8, .int z22), (0, .ref (a 0)), (1, .int x1), (2, .int x2), (3, .int x3), (4, .int x4), (5, .int x5), (6, .int x6)]) hx hb dX12_two_139 hl (k := 8) rfl rfl (by decide) rfl (fun ls hl => ?_)
                refine lv_goto (tgt := 60) hx hb dX12_two_142 (by decide) ?_
                exact ih x3 x4 x5 (x7 + 1) ls (lv_sub hl [2, 3, 4, 5, 6, 7, 8, 0] rfl) hf
              · have hf := ifn c_24 hf
                refine lv_iload hx hb dX12_two_128 (lv_at hl 7 rfl) ?_
                refine lv_istore_n (lv' := [(3, .int x6), (8, .int z22), (0, .ref (a 0)), (1, .int x1), (2, .int x2), (4, .int x4), (5, .int x5), (6, .int x6), (7, .int x7)]) hx hb dX12_two_130 rfl hl (by decide) rfl (fun ls hl => ?_)
                refine lv_iload hx hb dX12_two_131 (lv_at hl 8 rfl) ?_
                refine lv_istore (lv' := [(4, .int x7), (3, .int x6), (8, .int z22), (0, .ref (a 0)), (1, .int x1), (2, .int x2), (5, .int x5), (6, .int x6), (7, .int x7)]) hx hb dX12_two_133 hl (by decide) rfl (fun ls hl => ?_)
                refine lv_iload hx hb dX12_two_135 (lv_at hl 2 rfl) ?_
                refine lv_istore (lv' := [(5, .int z22), (4, .int x7), (3, .int x6), (8, .int z22), (0, .ref (a 0)), (1, .int x1), (2, .int x2), (6, .int x6), (7, .int x7)]) hx hb dX12_two_137 hl (by decide) rfl (fun ls hl => ?_)
                refine lv_iinc (v := (x7 + 1)) (lv' := [(7, .int (x7 + 1)), (5, .int z22), (4, .int x7), (3, .int x6), (8, .int z22), (0, .ref (a 0)), (1, .int x1), (2, .int x2), (6, .int x6)]) hx hb dX12_two_139 hl (k := 8) rfl rfl (by decide) rfl (fun ls hl => ?_)
                refine lv_goto (tgt := 60) hx hb dX12_two_142 (by decide) ?_
                exact ih x6 x7 z22 (x7 + 1) ls (lv_sub hl [5, 6, 7, 3, 2, 1, 8, 0] rfl) hf
set_option maxHeartbeats 4000000 in
set_option maxRecDepth 100000 in
theorem w_X12_two_l45 {p : Program} {l : Launch} {e : Env} {s : State} {m : MethodId} {args : Array Value} {below : List Frame} {meth : Method} {c : Code} {D : va_G} {g : Nat → ClassId} {a : Nat → Nat} (C : Cx p s m args meth c cX12_two 9 (some .int) RX12 D (tyL g)) (N : Nat) (M : Mem) (hP : va_P D clL (wM g a M) s.heap) (x1 : Int32) (x2 : Int32) (r : Int32) :
    ∀ (n : Nat) (x3 : Int32) (x4 : Int32) (x5 : Int32) (x6 : Int32), ∀ (ls : Array Slot), lv_has ls 9 [(0, .ref (a 0)), (1, .int x1), (2, .int x2), (3, .int x3), (4, .int x4), (5, .int x5), (6, .int x6)] → f_X12_two_l45 N M x1 x2 n x3 x4 x5 x6 = some r → W p l e (rmv 3 73) s m args below meth c s.heap [] 0 0 (MQ below (RdQ (.int r)) args s 0 0 nof) (F0 m 45 ls []) := by
  obtain ⟨hx, hb, hr, hml, hown, ht, hlocks, hK, hN⟩ := id C
  intro n
  induction n with
  | zero =>
    intro x3 x4 x5 x6 ls hl hf
    exact nos hf
  | succ n ih =>
    intro x3 x4 x5 x6 ls hl hf
    rw [f_X12_two_l45] at hf
    refine lv_iload hx hb dX12_two_45 (lv_at hl 6 rfl) ?_
    refine lv_aload_n hx hb dX12_two_47 rfl (lv_at hl 0 rfl) ?_
    obtain ⟨r7, e_7, hf⟩ := bns hf
    refine kR (rV (rest := [.int x6]) C (c_X12_all l D g a M r7 e_7) ok_X12_all wd_842 hP 0 (aM_0 g a M) rfl ⟨rfl, rfl, Nat.le_of_ble_eq_true rfl, Nat.le_of_ble_eq_true rfl⟩ rfl hl.1 rfl (Nat.le_of_ble_eq_true rfl) dX12_two_48 ⟨Nat.le_of_ble_eq_true rfl, Nat.le_of_ble_eq_true rfl⟩) ?_
    refine lv_icmp_ge (tgt := 151) hx hb dX12_two_51 (by decide) (fun c_8 => ?_) (fun c_8 => ?_)
    · have hf := ifp c_8 hf
      refine lv_iload_n hx hb dX12_two_151 rfl (lv_at hl 2 rfl) ?_
      refine lv_if_ne (tgt := 159) hx hb dX12_two_152 (by decide) (fun c_9 => ?_) (fun c_9 => ?_)
      · have hf := ifn c_9 hf
        refine lv_iload_n hx hb dX12_two_159 rfl (lv_at hl 2 rfl) ?_
        refine lv_iconst (v := 1) hx hb dX12_two_160 (by decide) ?_
        refine lv_icmp_ne (tgt := 169) hx hb dX12_two_161 (by decide) (fun c_10 => ?_) (fun c_10 => ?_)
        · have hf := ifn c_10 hf
          refine lv_iload hx hb dX12_two_169 (lv_at hl 5 rfl) ?_
          obtain rfl := Option.some.inj hf
          exact retR C dX12_two_171
        · have hf := ifp c_10 hf
          refine lv_iload hx hb dX12_two_164 (lv_at hl 4 rfl) ?_
          refine lv_goto (tgt := 171) hx hb dX12_two_166 (by decide) ?_
          obtain rfl := Option.some.inj hf
          exact retR C dX12_two_171
      · have hf := ifp c_9 hf
        refine lv_iload_n hx hb dX12_two_155 rfl (lv_at hl 3 rfl) ?_
        refine lv_goto (tgt := 171) hx hb dX12_two_156 (by decide) ?_
        obtain rfl := Option.some.inj hf
        exact retR C dX12_two_171
    · have hf := ifn c_8 hf
      refine lv_iload hx hb dX12_two_54 (lv_at hl 6 rfl) ?_
      refine lv_iconst (v := 1) hx hb dX12_two_56 (by decide) ?_
      refine lv_iadd hx hb dX12_two_57 ?_
      refine lv_topi (fun z11 ez11 => ?_)
      have hf := nmr ez11 hf
      refine lv_istore (lv' := [(7, .int z11), (0, .ref (a 0)), (1, .int x1), (2, .int x2), (3, .int x3), (4, .int x4), (5, .int x5), (6, .int x6)]) hx hb dX12_two_58 hl (by decide) rfl (fun ls hl => ?_)
      refine w_X12_two_l60 C N M hP x1 x6 x2 r _ (fun y3_25 y4_25 y5_25 ls hl hf => ?_) N x3 x4 x5 z11 ls (lv_sub hl [1, 2, 3, 4, 5, 6, 7, 0] rfl) hf
      refine lv_iinc (v := (x6 + 1)) (lv' := [(6, .int (x6 + 1)), (0, .ref (a 0)), (1, .int x1), (2, .int x2), (3, .int y3_25), (4, .int y4_25), (5, .int y5_25)]) hx hb dX12_two_145 hl (k := 6) rfl rfl (by decide) rfl (fun ls hl => ?_)
      refine lv_goto (tgt := 45) hx hb dX12_two_148 (by decide) ?_
      exact ih y3_25 y4_25 y5_25 (x6 + 1) ls (lv_sub hl [1, 2, 3, 4, 5, 6, 0] rfl) hf
set_option maxHeartbeats 4000000 in
set_option maxRecDepth 100000 in
theorem c_X12_two (l : Launch) (D : va_G) (g : Nat → ClassId) (a : Nat → Nat) (N : Nat) (M : Mem) (x1 : Int32) (x2 : Int32) (r : Int32) (hf : f_X12_two N M x1 x2 = some r) : Met l yX12_two (cW yX12_two cX12_two 9 (some .int)) (rmv 3 73) (Pw D (tyL g) (wM g a M) [.ref (a 0), .int x1, .int x2]) (RdQ (.int r)) 0 0 nof := by
  unfold f_X12_two at hf
  refine met_in (by decide) (Nat.le_of_ble_eq_true rfl) ?_
  intro p e s m args below meth c ls C hP hl
  have C : Cx p s m args meth c cX12_two 9 (some .int) RX12 D (tyL g) := C
  obtain ⟨hx, hb, hr, hml, hown, ht, hlocks, hK, hN⟩ := id C
  have hl : lv_has ls 9 [(0, .ref (a 0)), (1, .int x1), (2, .int x2)] := hl
  refine lv_iload_n hx hb dX12_two_0 rfl (lv_at hl 1 rfl) ?_
  obtain ⟨r1, e_1, hf⟩ := bns hf
  refine kR (rS (rest := []) C (c_X12_isMonth l D (tyL g) (wM g a M) x1 r1 e_1) ok_X12_isMonth wd_858 hP ⟨rfl, rfl, Nat.le_of_ble_eq_true rfl, Nat.le_of_ble_eq_true rfl⟩ rfl hl.1 rfl (Nat.le_of_ble_eq_true rfl) dX12_two_1 ⟨Nat.le_of_ble_eq_true rfl, Nat.le_of_ble_eq_true rfl⟩) ?_
  refine lv_if_ne (tgt := 9) hx hb dX12_two_4 (by decide) (fun c_2 => ?_) (fun c_2 => ?_)
  · have hf := ifn c_2 hf
    refine lv_iload_n hx hb dX12_two_9 rfl (lv_at hl 2 rfl) ?_
    refine lv_iconst (v := 0) hx hb dX12_two_10 (by decide) ?_
    refine lv_iconst (v := 2) hx hb dX12_two_11 (by decide) ?_
    obtain ⟨r3, e_3, hf⟩ := bns hf
    refine kR (rS (rest := []) C (c_X12_within l D (tyL g) (wM g a M) x2 0 2 r3 e_3) ok_X12_within wd_816 hP ⟨rfl, rfl, Nat.le_of_ble_eq_true rfl, Nat.le_of_ble_eq_true rfl⟩ rfl hl.1 rfl (Nat.le_of_ble_eq_true rfl) dX12_two_12 ⟨Nat.le_of_ble_eq_true rfl, Nat.le_of_ble_eq_true rfl⟩) ?_
    refine lv_if_ne (tgt := 21) hx hb dX12_two_15 (by decide) (fun c_4 => ?_) (fun c_4 => ?_)
    · have hf := ifn c_4 hf
      refine lv_aload_n hx hb dX12_two_21 rfl (lv_at hl 0 rfl) ?_
      obtain ⟨r5, e_5, hf⟩ := bns hf
      refine kR (rV (rest := []) C (c_X12_all l D g a M r5 e_5) ok_X12_all wd_842 hP 0 (aM_0 g a M) rfl ⟨rfl, rfl, Nat.le_of_ble_eq_true rfl, Nat.le_of_ble_eq_true rfl⟩ rfl hl.1 rfl (Nat.le_of_ble_eq_true rfl) dX12_two_22 ⟨Nat.le_of_ble_eq_true rfl, Nat.le_of_ble_eq_true rfl⟩) ?_
      refine lv_if_ne (tgt := 31) hx hb dX12_two_25 (by decide) (fun c_6 => ?_) (fun c_6 => ?_)
      · have hf := ifn c_6 hf
        refine lv_bipush (v := (-9)) hx hb dX12_two_31 (by decide) ?_
        refine lv_istore_n (lv' := [(3, .int (-9)), (0, .ref (a 0)), (1, .int x1), (2, .int x2)]) hx hb dX12_two_33 rfl hl (by decide) rfl (fun ls hl => ?_)
        refine lv_bipush (v := (-9)) hx hb dX12_two_34 (by decide) ?_
        refine lv_istore (lv' := [(4, .int (-9)), (3, .int (-9)), (0, .ref (a 0)), (1, .int x1), (2, .int x2)]) hx hb dX12_two_36 hl (by decide) rfl (fun ls hl => ?_)
        refine lv_bipush (v := (-9)) hx hb dX12_two_38 (by decide) ?_
        refine lv_istore (lv' := [(5, .int (-9)), (4, .int (-9)), (3, .int (-9)), (0, .ref (a 0)), (1, .int x1), (2, .int x2)]) hx hb dX12_two_40 hl (by decide) rfl (fun ls hl => ?_)
        refine lv_iconst (v := 0) hx hb dX12_two_42 (by decide) ?_
        refine lv_istore (lv' := [(6, .int 0), (5, .int (-9)), (4, .int (-9)), (3, .int (-9)), (0, .ref (a 0)), (1, .int x1), (2, .int x2)]) hx hb dX12_two_43 hl (by decide) rfl (fun ls hl => ?_)
        exact w_X12_two_l45 C N M hP x1 x2 r N (-9) (-9) (-9) 0 ls (lv_sub hl [4, 5, 6, 3, 2, 1, 0] rfl) hf
      · have hf := ifp c_6 hf
        refine lv_bipush (v := (-3)) hx hb dX12_two_28 (by decide) ?_
        obtain rfl := Option.some.inj hf
        exact retR C dX12_two_30
    · have hf := ifp c_4 hf
      refine lv_bipush (v := (-2)) hx hb dX12_two_18 (by decide) ?_
      obtain rfl := Option.some.inj hf
      exact retR C dX12_two_20
  · have hf := ifp c_2 hf
    refine lv_iconst (v := (-1)) hx hb dX12_two_7 (by decide) ?_
    obtain rfl := Option.some.inj hf
    exact retR C dX12_two_8
set_option maxHeartbeats 4000000 in
set_option maxRecDepth 100000 in
theorem w_X12_apartOf_l34 {p : Program} {l : Launch} {e : Env} {s : State} {m : MethodId} {args : Array Value} {below : List Frame} {meth : Method} {c : Code} {D : va_G} {g : Nat → ClassId} {a : Nat → Nat} (C : Cx p s m args meth c cX12_apartOf 9 (some .int) RX12 D (tyL g)) (N : Nat) (M : Mem) (hP : va_P D clL (wM g a M) s.heap) (x2 : Int32) (x3 : Int32) (x6 : Int32) (x1 : Int32) (r : Int32) (kc : Int32 → Int32 → Option (Int32)) (hkc : ∀ (y4 : Int32) (y5 : Int32), ∀ (ls : Array Slot), lv_has ls 9 [(0, .ref (a 0)), (1, .int x1), (2, .int x2), (3, .int x3), (4, .int y4), (5, .int y5), (6, .int x6)] → kc y4 y5 = some r → W p l e (rmv 2 46) s m args below meth c s.heap [] 0 0 (MQ below (RdQ (.int r)) args s 0 0 nof) (F0 m 100 ls [])) :
    ∀ (n : Nat) (x4 : Int32) (x5 : Int32) (x7 : Int32), ∀ (ls : Array Slot), lv_has ls 9 [(0, .ref (a 0)), (1, .int x1), (2, .int x2), (3, .int x3), (4, .int x4), (5, .int x5), (6, .int x6), (7, .int x7)] → f_X12_apartOf_l34 kc N M x2 x3 x6 n x4 x5 x7 = some r → W p l e (rmv 2 46) s m args below meth c s.heap [] 0 0 (MQ below (RdQ (.int r)) args s 0 0 nof) (F0 m 34 ls []) := by
  obtain ⟨hx, hb, hr, hml, hown, ht, hlocks, hK, hN⟩ := id C
  intro n
  induction n with
  | zero =>
    intro x4 x5 x7 ls hl hf
    exact nos hf
  | succ n ih =>
    intro x4 x5 x7 ls hl hf
    rw [f_X12_apartOf_l34] at hf
    refine lv_iload hx hb dX12_apartOf_34 (lv_at hl 7 rfl) ?_
    refine lv_iload_n hx hb dX12_apartOf_36 rfl (lv_at hl 2 rfl) ?_
    refine lv_aload_n hx hb dX12_apartOf_37 rfl (lv_at hl 0 rfl) ?_
    refine fg_X12_75 C hP dX12_apartOf_38 ?_
    obtain ⟨h_6, hf⟩ := ifs hf
    refine lv_irem hx hb dX12_apartOf_41 h_6 ?_
    refine lv_icmp_gt (tgt := 100) hx hb dX12_apartOf_42 (by decide) (fun c_7 => ?_) (fun c_7 => ?_)
    · have hf := ifp c_7 hf
      exact hkc x4 x5 ls (lv_sub hl [0, 1, 2, 3, 4, 5, 6] rfl) hf
    · have hf := ifn c_7 hf
      refine lv_aload_n hx hb dX12_apartOf_45 rfl (lv_at hl 0 rfl) ?_
      refine lv_aload_n hx hb dX12_apartOf_46 rfl (lv_at hl 0 rfl) ?_
      refine fg_X12_75 C hP dX12_apartOf_47 ?_
      refine lv_iload hx hb dX12_apartOf_50 (lv_at hl 6 rfl) ?_
      refine lv_imul hx hb dX12_apartOf_52 ?_
      refine lv_iload hx hb dX12_apartOf_53 (lv_at hl 7 rfl) ?_
      refine lv_iadd hx hb dX12_apartOf_55 ?_
      refine lv_iload_n hx hb dX12_apartOf_56 rfl (lv_at hl 3 rfl) ?_
      obtain ⟨r8, e_8, hf⟩ := bns hf
      refine kR (rV (rest := []) C (c_X12_heightOf l D g a M (((M 0 6) * x6) + x7) x3 r8 e_8) ok_X12_heightOf wd_869 hP 0 (aM_0 g a M) rfl ⟨rfl, rfl, Nat.le_of_ble_eq_true rfl, Nat.le_of_ble_eq_true rfl⟩ rfl hl.1 rfl (Nat.le_of_ble_eq_true rfl) dX12_apartOf_57 ⟨Nat.le_of_ble_eq_true rfl, Nat.le_of_ble_eq_true rfl⟩) ?_
      refine lv_istore (lv' := [(8, .int r8), (0, .ref (a 0)), (1, .int x1), (2, .int x2), (3, .int x3), (4, .int x4), (5, .int x5), (6, .int x6), (7, .int x7)]) hx hb dX12_apartOf_60 hl (by decide) rfl (fun ls hl => ?_)
      refine lv_iload hx hb dX12_apartOf_62 (lv_at hl 0 rfl) ?_
      refine lv_iload hx hb dX12_apartOf_64 (lv_at hl 5 rfl) ?_
      refine lv_icmp_ge (tgt := 74) hx hb dX12_apartOf_66 (by decide) (fun c_9 => ?_) (fun c_9 => ?_)
      · have hf := ifp c_9 hf
        refine lv_iload hx hb dX12_apartOf_74 (lv_at hl 5 rfl) ?_
        refine lv_istore (lv' := [(4, .int x4), (8, .int r8), (0, .ref (a 0)), (1, .int x1), (2, .int x2), (3, .int x3), (5, .int x5), (6, .int x6), (7, .int x7)]) hx hb dX12_apartOf_76 hl (by decide) rfl (fun ls hl => ?_)
        refine lv_iload hx hb dX12_apartOf_78 (lv_at hl 1 rfl) ?_
        refine lv_iload hx hb dX12_apartOf_80 (lv_at hl 6 rfl) ?_
        refine lv_icmp_le (tgt := 90) hx hb dX12_apartOf_82 (by decide) (fun c_10 => ?_) (fun c_10 => ?_)
        · have hf := ifp c_10 hf
          refine lv_iload hx hb dX12_apartOf_90 (lv_at hl 6 rfl) ?_
          refine lv_istore (lv' := [(5, .int x5), (4, .int x4), (8, .int r8), (0, .ref (a 0)), (1, .int x1), (2, .int x2), (3, .int x3), (6, .int x6), (7, .int x7)]) hx hb dX12_apartOf_92 hl (by decide) rfl (fun ls hl => ?_)
          refine lv_iinc (v := (x7 + 1)) (lv' := [(7, .int (x7 + 1)), (5, .int x5), (4, .int x4), (8, .int r8), (0, .ref (a 0)), (1, .int x1), (2, .int x2), (3, .int x3), (6, .int x6)]) hx hb dX12_apartOf_94 hl (k := 8) rfl rfl (by decide) rfl (fun ls hl => ?_)
          refine lv_goto (tgt := 34) hx hb dX12_apartOf_97 (by decide) ?_
          exact ih x4 x5 (x7 + 1) ls (lv_sub hl [4, 5, 6, 7, 2, 1, 8, 0] rfl) hf
        · have hf := ifn c_10 hf
          refine lv_iload hx hb dX12_apartOf_85 (lv_at hl 1 rfl) ?_
          refine lv_goto (tgt := 92) hx hb dX12_apartOf_87 (by decide) ?_
          refine lv_istore (lv' := [(5, .int r8), (4, .int x4), (8, .int r8), (0, .ref (a 0)), (1, .int x1), (2, .int x2), (3, .int x3), (6, .int x6), (7, .int x7)]) hx hb dX12_apartOf_92 hl (by decide) rfl (fun ls hl => ?_)
          refine lv_iinc (v := (x7 + 1)) (lv' := [(7, .int (x7 + 1)), (5, .int r8), (4, .int x4), (8, .int r8), (0, .ref (a 0)), (1, .int x1), (2, .int x2), (3, .int x3), (6, .int x6)]) hx hb dX12_apartOf_94 hl (k := 8) rfl rfl (by decide) rfl (fun ls hl => ?_)
          refine lv_goto (tgt := 34) hx hb dX12_apartOf_97 (by decide) ?_
          exact ih x4 r8 (x7 + 1) ls (lv_sub hl [4, 5, 6, 7, 2, 1, 8, 0] rfl) hf
      · have hf := ifn c_9 hf
        refine lv_iload hx hb dX12_apartOf_69 (lv_at hl 0 rfl) ?_
        refine lv_goto (tgt := 76) hx hb dX12_apartOf_71 (by decide) ?_
        refine lv_istore (lv' := [(4, .int r8), (8, .int r8), (0, .ref (a 0)), (1, .int x1), (2, .int x2), (3, .int x3), (5, .int x5), (6, .int x6), (7, .int x7)]) hx hb dX12_apartOf_76 hl (by decide) rfl (fun ls hl => ?_)
        refine lv_iload hx hb dX12_apartOf_78 (lv_at hl 1 rfl) ?_
        refine lv_iload hx hb dX12_apartOf_80 (lv_at hl 6 rfl) ?_
        refine lv_icmp_le (tgt := 90) hx hb dX12_apartOf_82 (by decide) (fun c_11 => ?_) (fun c_11 => ?_)
        · have hf := ifp c_11 hf
          refine lv_iload hx hb dX12_apartOf_90 (lv_at hl 6 rfl) ?_
          refine lv_istore (lv' := [(5, .int x5), (4, .int r8), (8, .int r8), (0, .ref (a 0)), (1, .int x1), (2, .int x2), (3, .int x3), (6, .int x6), (7, .int x7)]) hx hb dX12_apartOf_92 hl (by decide) rfl (fun ls hl => ?_)
          refine lv_iinc (v := (x7 + 1)) (lv' := [(7, .int (x7 + 1)), (5, .int x5), (4, .int r8), (8, .int r8), (0, .ref (a 0)), (1, .int x1), (2, .int x2), (3, .int x3), (6, .int x6)]) hx hb dX12_apartOf_94 hl (k := 8) rfl rfl (by decide) rfl (fun ls hl => ?_)
          refine lv_goto (tgt := 34) hx hb dX12_apartOf_97 (by decide) ?_
          exact ih r8 x5 (x7 + 1) ls (lv_sub hl [4, 5, 6, 7, 2, 1, 8, 0] rfl) hf
        · have hf := ifn c_11 hf
          refine lv_iload hx hb dX12_apartOf_85 (lv_at hl 1 rfl) ?_
          refine lv_goto (tgt := 92) hx hb dX12_apartOf_87 (by decide) ?_
          refine lv_istore (lv' := [(5, .int r8), (4, .int r8), (8, .int r8), (0, .ref (a 0)), (1, .int x1), (2, .int x2), (3, .int x3), (6, .int x6), (7, .int x7)]) hx hb dX12_apartOf_92 hl (by decide) rfl (fun ls hl => ?_)
          refine lv_iinc (v := (x7 + 1)) (lv' := [(7, .int (x7 + 1)), (5, .int r8), (4, .int r8), (8, .int r8), (0, .ref (a 0)), (1, .int x1), (2, .int x2), (3, .int x3), (6, .int x6)]) hx hb dX12_apartOf_94 hl (k := 8) rfl rfl (by decide) rfl (fun ls hl => ?_)
          refine lv_goto (tgt := 34) hx hb dX12_apartOf_97 (by decide) ?_
          exact ih r8 r8 (x7 + 1) ls (lv_sub hl [4, 5, 6, 7, 2, 1, 8, 0] rfl) hf
set_option maxHeartbeats 4000000 in
set_option maxRecDepth 100000 in
theorem w_X12_apartOf_l15 {p : Program} {l : Launch} {e : Env} {s : State} {m : MethodId} {args : Array Value} {below : List Frame} {meth : Method} {c : Code} {D : va_G} {g : Nat → ClassId} {a : Nat → Nat} (C : Cx p s m args meth c cX12_apartOf 9 (some .int) RX12 D (tyL g)) (N : Nat) (M : Mem) (hP : va_P D clL (wM g a M) s.heap) (x1 : Int32) (x2 : Int32) (x3 : Int32) (r : Int32) :
    ∀ (n : Nat) (x4 : Int32) (x5 : Int32) (x6 : Int32), ∀ (ls : Array Slot), lv_has ls 9 [(0, .ref (a 0)), (1, .int x1), (2, .int x2), (3, .int x3), (4, .int x4), (5, .int x5), (6, .int x6)] → f_X12_apartOf_l15 N M x1 x2 x3 n x4 x5 x6 = some r → W p l e (rmv 2 46) s m args below meth c s.heap [] 0 0 (MQ below (RdQ (.int r)) args s 0 0 nof) (F0 m 15 ls []) := by
  obtain ⟨hx, hb, hr, hml, hown, ht, hlocks, hK, hN⟩ := id C
  intro n
  induction n with
  | zero =>
    intro x4 x5 x6 ls hl hf
    exact nos hf
  | succ n ih =>
    intro x4 x5 x6 ls hl hf
    rw [f_X12_apartOf_l15] at hf
    refine lv_iload hx hb dX12_apartOf_15 (lv_at hl 6 rfl) ?_
    refine lv_iload_n hx hb dX12_apartOf_17 rfl (lv_at hl 2 rfl) ?_
    refine lv_aload_n hx hb dX12_apartOf_18 rfl (lv_at hl 0 rfl) ?_
    refine fg_X12_75 C hP dX12_apartOf_19 ?_
    obtain ⟨h_3, hf⟩ := ifs hf
    refine lv_idiv hx hb dX12_apartOf_22 h_3 ?_
    refine lv_icmp_gt (tgt := 106) hx hb dX12_apartOf_23 (by decide) (fun c_4 => ?_) (fun c_4 => ?_)
    · have hf := ifp c_4 hf
      refine lv_iload hx hb dX12_apartOf_106 (lv_at hl 5 rfl) ?_
      refine lv_iload hx hb dX12_apartOf_108 (lv_at hl 4 rfl) ?_
      refine lv_isub hx hb dX12_apartOf_110 ?_
      obtain rfl := Option.some.inj hf
      exact retR C dX12_apartOf_111
    · have hf := ifn c_4 hf
      refine lv_iload_n hx hb dX12_apartOf_26 rfl (lv_at hl 1 rfl) ?_
      refine lv_aload_n hx hb dX12_apartOf_27 rfl (lv_at hl 0 rfl) ?_
      refine fg_X12_75 C hP dX12_apartOf_28 ?_
      refine lv_irem hx hb dX12_apartOf_31 h_3 ?_
      refine lv_topi (fun z5 ez5 => ?_)
      have hf := nmr ez5 hf
      refine lv_istore (lv' := [(7, .int z5), (0, .ref (a 0)), (1, .int x1), (2, .int x2), (3, .int x3), (4, .int x4), (5, .int x5), (6, .int x6)]) hx hb dX12_apartOf_32 hl (by decide) rfl (fun ls hl => ?_)
      refine w_X12_apartOf_l34 C N M hP x2 x3 x6 x1 r _ (fun y4_12 y5_12 ls hl hf => ?_) N x4 x5 z5 ls (lv_sub hl [1, 2, 3, 4, 5, 6, 7, 0] rfl) hf
      refine lv_iinc (v := (x6 + 1)) (lv' := [(6, .int (x6 + 1)), (0, .ref (a 0)), (1, .int x1), (2, .int x2), (3, .int x3), (4, .int y4_12), (5, .int y5_12)]) hx hb dX12_apartOf_100 hl (k := 6) rfl rfl (by decide) rfl (fun ls hl => ?_)
      refine lv_goto (tgt := 15) hx hb dX12_apartOf_103 (by decide) ?_
      exact ih y4_12 y5_12 (x6 + 1) ls (lv_sub hl [1, 2, 3, 4, 5, 6, 0] rfl) hf
set_option maxHeartbeats 4000000 in
set_option maxRecDepth 100000 in
theorem c_X12_apartOf (l : Launch) (D : va_G) (g : Nat → ClassId) (a : Nat → Nat) (N : Nat) (M : Mem) (x1 : Int32) (x2 : Int32) (x3 : Int32) (r : Int32) (hf : f_X12_apartOf N M x1 x2 x3 = some r) : Met l yX12_apartOf (cW yX12_apartOf cX12_apartOf 9 (some .int)) (rmv 2 46) (Pw D (tyL g) (wM g a M) [.ref (a 0), .int x1, .int x2, .int x3]) (RdQ (.int r)) 0 0 nof := by
  unfold f_X12_apartOf at hf
  refine met_in (by decide) (Nat.le_of_ble_eq_true rfl) ?_
  intro p e s m args below meth c ls C hP hl
  have C : Cx p s m args meth c cX12_apartOf 9 (some .int) RX12 D (tyL g) := C
  obtain ⟨hx, hb, hr, hml, hown, ht, hlocks, hK, hN⟩ := id C
  have hl : lv_has ls 9 [(0, .ref (a 0)), (1, .int x1), (2, .int x2), (3, .int x3)] := hl
  refine lv_ldc hx hb hown (ht _ wd_889) dX12_apartOf_0 ?_
  refine lv_istore (lv' := [(4, .int 999999), (0, .ref (a 0)), (1, .int x1), (2, .int x2), (3, .int x3)]) hx hb dX12_apartOf_2 hl (by decide) rfl (fun ls hl => ?_)
  refine lv_iconst (v := 0) hx hb dX12_apartOf_4 (by decide) ?_
  refine lv_istore (lv' := [(5, .int 0), (4, .int 999999), (0, .ref (a 0)), (1, .int x1), (2, .int x2), (3, .int x3)]) hx hb dX12_apartOf_5 hl (by decide) rfl (fun ls hl => ?_)
  refine lv_iload_n hx hb dX12_apartOf_7 rfl (lv_at hl 3 rfl) ?_
  refine lv_aload_n hx hb dX12_apartOf_8 rfl (lv_at hl 2 rfl) ?_
  refine fg_X12_75 C hP dX12_apartOf_9 ?_
  obtain ⟨h_1, hf⟩ := ifs hf
  refine lv_idiv hx hb dX12_apartOf_12 h_1 ?_
  refine lv_topi (fun z2 ez2 => ?_)
  have hf := nmr ez2 hf
  refine lv_istore (lv' := [(6, .int z2), (5, .int 0), (4, .int 999999), (0, .ref (a 0)), (1, .int x1), (2, .int x2), (3, .int x3)]) hx hb dX12_apartOf_13 hl (by decide) rfl (fun ls hl => ?_)
  exact w_X12_apartOf_l15 C N M hP x1 x2 x3 r N 999999 0 z2 ls (lv_sub hl [3, 4, 5, 6, 2, 1, 0] rfl) hf
set_option maxHeartbeats 4000000 in
set_option maxRecDepth 100000 in
theorem w_X12_oval_l67 {p : Program} {l : Launch} {e : Env} {s : State} {m : MethodId} {args : Array Value} {below : List Frame} {meth : Method} {c : Code} {D : va_G} {g : Nat → ClassId} {a : Nat → Nat} (C : Cx p s m args meth c cX12_oval 10 (some .int) RX12 D (tyL g)) (N : Nat) (M : Mem) (hP : va_P D clL (wM g a M) s.heap) (x1 : Int32) (x2 : Int32) (x7 : Int32) (x3 : Int32) (r : Int32) (kc : Int32 → Int32 → Int32 → Option (Int32)) (hkc : ∀ (y4 : Int32) (y5 : Int32) (y6 : Int32), ∀ (ls : Array Slot), lv_has ls 10 [(0, .ref (a 0)), (1, .int x1), (2, .int x2), (3, .int x3), (4, .int y4), (5, .int y5), (6, .int y6), (7, .int x7)] → kc y4 y5 y6 = some r → W p l e (rmv 3 74) s m args below meth c s.heap [] 0 0 (MQ below (RdQ (.int r)) args s 0 0 nof) (F0 m 168 ls [])) :
    ∀ (n : Nat) (x4 : Int32) (x5 : Int32) (x6 : Int32) (x8 : Int32), ∀ (ls : Array Slot), lv_has ls 10 [(0, .ref (a 0)), (1, .int x1), (2, .int x2), (3, .int x3), (4, .int x4), (5, .int x5), (6, .int x6), (7, .int x7), (8, .int x8)] → f_X12_oval_l67 kc N M x1 x2 x7 n x4 x5 x6 x8 = some r → W p l e (rmv 3 74) s m args below meth c s.heap [] 0 0 (MQ below (RdQ (.int r)) args s 0 0 nof) (F0 m 67 ls []) := by
  obtain ⟨hx, hb, hr, hml, hown, ht, hlocks, hK, hN⟩ := id C
  intro n
  induction n with
  | zero =>
    intro x4 x5 x6 x8 ls hl hf
    exact nos hf
  | succ n ih =>
    intro x4 x5 x6 x8 ls hl hf
    rw [f_X12_oval_l67] at hf
    refine lv_iload hx hb dX12_oval_67 (lv_at hl 8 rfl) ?_
    refine lv_aload_n hx hb dX12_oval_69 rfl (lv_at hl 0 rfl) ?_
    obtain ⟨r13, e_13, hf⟩ := bns hf
    refine kR (rV (rest := [.int x8]) C (c_X12_all l D g a M r13 e_13) ok_X12_all wd_842 hP 0 (aM_0 g a M) rfl ⟨rfl, rfl, Nat.le_of_ble_eq_true rfl, Nat.le_of_ble_eq_true rfl⟩ rfl hl.1 rfl (Nat.le_of_ble_eq_true rfl) dX12_oval_70 ⟨Nat.le_of_ble_eq_true rfl, Nat.le_of_ble_eq_true rfl⟩) ?_
    refine lv_icmp_ge (tgt := 168) hx hb dX12_oval_73 (by decide) (fun c_14 => ?_) (fun c_14 => ?_)
    · have hf := ifp c_14 hf
      exact hkc x4 x5 x6 ls (lv_sub hl [0, 1, 2, 3, 4, 5, 6, 7] rfl) hf
    · have hf := ifn c_14 hf
      refine lv_iload hx hb dX12_oval_76 (lv_at hl 8 rfl) ?_
      refine lv_aload_n hx hb dX12_oval_78 rfl (lv_at hl 0 rfl) ?_
      refine fg_X12_75 C hP dX12_oval_79 ?_
      obtain ⟨h_15, hf⟩ := ifs hf
      refine lv_idiv hx hb dX12_oval_82 h_15 ?_
      refine lv_iload hx hb dX12_oval_83 (lv_at hl 7 rfl) ?_
      refine lv_aload_n hx hb dX12_oval_85 rfl (lv_at hl 0 rfl) ?_
      refine fg_X12_75 C hP dX12_oval_86 ?_
      refine lv_idiv hx hb dX12_oval_89 h_15 ?_
      refine lv_isub hx hb dX12_oval_90 ?_
      refine lv_iconst (v := 1) hx hb dX12_oval_91 (by decide) ?_
      refine lv_iadd hx hb dX12_oval_92 ?_
      refine lv_iload hx hb dX12_oval_93 (lv_at hl 8 rfl) ?_
      refine lv_aload_n hx hb dX12_oval_95 rfl (lv_at hl 0 rfl) ?_
      refine fg_X12_75 C hP dX12_oval_96 ?_
      refine lv_irem hx hb dX12_oval_99 h_15 ?_
      refine lv_iload hx hb dX12_oval_100 (lv_at hl 7 rfl) ?_
      refine lv_aload_n hx hb dX12_oval_102 rfl (lv_at hl 0 rfl) ?_
      refine fg_X12_75 C hP dX12_oval_103 ?_
      refine lv_irem hx hb dX12_oval_106 h_15 ?_
      refine lv_isub hx hb dX12_oval_107 ?_
      refine lv_iconst (v := 1) hx hb dX12_oval_108 (by decide) ?_
      refine lv_iadd hx hb dX12_oval_109 ?_
      refine lv_imul hx hb dX12_oval_110 ?_
      refine lv_topi (fun z16 ez16 => ?_)
      have hf := nmr ez16 hf
      refine lv_istore (lv' := [(9, .int z16), (0, .ref (a 0)), (1, .int x1), (2, .int x2), (3, .int x3), (4, .int x4), (5, .int x5), (6, .int x6), (7, .int x7), (8, .int x8)]) hx hb dX12_oval_111 hl (by decide) rfl (fun ls hl => ?_)
      refine lv_iload hx hb dX12_oval_113 (lv_at hl 9 rfl) ?_
      refine lv_aload_n hx hb dX12_oval_115 rfl (lv_at hl 1 rfl) ?_
      refine fg_X12_75 C hP dX12_oval_116 ?_
      refine lv_irem hx hb dX12_oval_119 h_15 ?_
      refine lv_iload hx hb dX12_oval_120 (lv_at hl 8 rfl) ?_
      refine lv_aload_n hx hb dX12_oval_122 rfl (lv_at hl 1 rfl) ?_
      refine fg_X12_75 C hP dX12_oval_123 ?_
      refine lv_irem hx hb dX12_oval_126 h_15 ?_
      refine lv_icmp_lt (tgt := 162) hx hb dX12_oval_127 (by decide) (fun c_17 => ?_) (fun c_17 => ?_)
      · have hf := ifp c_17 hf
        refine lv_iinc (v := (x8 + 1)) (lv' := [(8, .int (x8 + 1)), (9, .int z16), (0, .ref (a 0)), (1, .int x1), (2, .int x2), (3, .int x3), (4, .int x4), (5, .int x5), (6, .int x6), (7, .int x7)]) hx hb dX12_oval_162 hl (k := 9) rfl rfl (by decide) rfl (fun ls hl => ?_)
        refine lv_goto (tgt := 67) hx hb dX12_oval_165 (by decide) ?_
        exact ih x4 x5 x6 (x8 + 1) ls (lv_sub hl [2, 3, 4, 5, 6, 7, 8, 9, 0] rfl) hf
      · have hf := ifn c_17 hf
        refine lv_iload hx hb dX12_oval_130 (lv_at hl 0 rfl) ?_
        refine lv_iload hx hb dX12_oval_132 (lv_at hl 5 rfl) ?_
        refine lv_icmp_le (tgt := 162) hx hb dX12_oval_134 (by decide) (fun c_18 => ?_) (fun c_18 => ?_)
        · have hf := ifp c_18 hf
          refine lv_iinc (v := (x8 + 1)) (lv' := [(8, .int (x8 + 1)), (9, .int z16), (0, .ref (a 0)), (1, .int x1), (2, .int x2), (3, .int x3), (4, .int x4), (5, .int x5), (6, .int x6), (7, .int x7)]) hx hb dX12_oval_162 hl (k := 9) rfl rfl (by decide) rfl (fun ls hl => ?_)
          refine lv_goto (tgt := 67) hx hb dX12_oval_165 (by decide) ?_
          exact ih x4 x5 x6 (x8 + 1) ls (lv_sub hl [2, 3, 4, 5, 6, 7, 8, 9, 0] rfl) hf
        · have hf := ifn c_18 hf
          refine lv_aload_n hx hb dX12_oval_137 rfl (lv_at hl 1 rfl) ?_
          refine lv_iload hx hb dX12_oval_138 (lv_at hl 8 rfl) ?_
          refine lv_iload hx hb dX12_oval_140 (lv_at hl 9 rfl) ?_
          refine lv_iload_n hx hb dX12_oval_142 rfl (lv_at hl 2 rfl) ?_
          obtain ⟨r19, e_19, hf⟩ := bns hf
          refine kR (rV (rest := []) C (c_X12_apartOf l D g a N M x7 x8 x1 r19 e_19) ok_X12_apartOf wd_937 hP 0 (aM_0 g a M) rfl ⟨rfl, rfl, Nat.le_of_ble_eq_true rfl, Nat.le_of_ble_eq_true rfl⟩ rfl hl.1 rfl (Nat.le_of_ble_eq_true rfl) dX12_oval_143 ⟨Nat.le_of_ble_eq_true rfl, Nat.le_of_ble_eq_true rfl⟩) ?_
          refine lv_iload_n hx hb dX12_oval_146 rfl (lv_at hl 3 rfl) ?_
          refine lv_icmp_gt (tgt := 162) hx hb dX12_oval_147 (by decide) (fun c_20 => ?_) (fun c_20 => ?_)
          · have hf := ifp c_20 hf
            refine lv_iinc (v := (x8 + 1)) (lv' := [(8, .int (x8 + 1)), (9, .int z16), (0, .ref (a 0)), (1, .int x1), (2, .int x2), (3, .int x3), (4, .int x4), (5, .int x5), (6, .int x6), (7, .int x7)]) hx hb dX12_oval_162 hl (k := 9) rfl rfl (by decide) rfl (fun ls hl => ?_)
            refine lv_goto (tgt := 67) hx hb dX12_oval_165 (by decide) ?_
            exact ih x4 x5 x6 (x8 + 1) ls (lv_sub hl [2, 3, 4, 5, 6, 7, 8, 9, 0] rfl) hf
          · have hf := ifn c_20 hf
            refine lv_iload hx hb dX12_oval_150 (lv_at hl 0 rfl) ?_
            refine lv_istore (lv' := [(4, .int z16), (9, .int z16), (0, .ref (a 0)), (1, .int x1), (2, .int x2), (3, .int x3), (5, .int x5), (6, .int x6), (7, .int x7), (8, .int x8)]) hx hb dX12_oval_152 hl (by decide) rfl (fun ls hl => ?_)
            refine lv_iload hx hb dX12_oval_154 (lv_at hl 8 rfl) ?_
            refine lv_istore (lv' := [(5, .int x7), (4, .int z16), (9, .int z16), (0, .ref (a 0)), (1, .int x1), (2, .int x2), (3, .int x3), (6, .int x6), (7, .int x7), (8, .int x8)]) hx hb dX12_oval_156 hl (by decide) rfl (fun ls hl => ?_)
            refine lv_iload hx hb dX12_oval_158 (lv_at hl 9 rfl) ?_
            refine lv_istore (lv' := [(6, .int x8), (5, .int x7), (4, .int z16), (9, .int z16), (0, .ref (a 0)), (1, .int x1), (2, .int x2), (3, .int x3), (7, .int x7), (8, .int x8)]) hx hb dX12_oval_160 hl (by decide) rfl (fun ls hl => ?_)
            refine lv_iinc (v := (x8 + 1)) (lv' := [(8, .int (x8 + 1)), (6, .int x8), (5, .int x7), (4, .int z16), (9, .int z16), (0, .ref (a 0)), (1, .int x1), (2, .int x2), (3, .int x3), (7, .int x7)]) hx hb dX12_oval_162 hl (k := 9) rfl rfl (by decide) rfl (fun ls hl => ?_)
            refine lv_goto (tgt := 67) hx hb dX12_oval_165 (by decide) ?_
            exact ih z16 x7 x8 (x8 + 1) ls (lv_sub hl [5, 6, 7, 8, 3, 2, 1, 9, 0] rfl) hf
set_option maxHeartbeats 4000000 in
set_option maxRecDepth 100000 in
theorem w_X12_oval_l54 {p : Program} {l : Launch} {e : Env} {s : State} {m : MethodId} {args : Array Value} {below : List Frame} {meth : Method} {c : Code} {D : va_G} {g : Nat → ClassId} {a : Nat → Nat} (C : Cx p s m args meth c cX12_oval 10 (some .int) RX12 D (tyL g)) (N : Nat) (M : Mem) (hP : va_P D clL (wM g a M) s.heap) (x1 : Int32) (x2 : Int32) (x3 : Int32) (r : Int32) :
    ∀ (n : Nat) (x4 : Int32) (x5 : Int32) (x6 : Int32) (x7 : Int32), ∀ (ls : Array Slot), lv_has ls 10 [(0, .ref (a 0)), (1, .int x1), (2, .int x2), (3, .int x3), (4, .int x4), (5, .int x5), (6, .int x6), (7, .int x7)] → f_X12_oval_l54 N M x1 x2 x3 n x4 x5 x6 x7 = some r → W p l e (rmv 3 74) s m args below meth c s.heap [] 0 0 (MQ below (RdQ (.int r)) args s 0 0 nof) (F0 m 54 ls []) := by
  obtain ⟨hx, hb, hr, hml, hown, ht, hlocks, hK, hN⟩ := id C
  intro n
  induction n with
  | zero =>
    intro x4 x5 x6 x7 ls hl hf
    exact nos hf
  | succ n ih =>
    intro x4 x5 x6 x7 ls hl hf
    rw [f_X12_oval_l54] at hf
    refine lv_iload hx hb dX12_oval_54 (lv_at hl 7 rfl) ?_
    refine lv_aload_n hx hb dX12_oval_56 rfl (lv_at hl 0 rfl) ?_
    obtain ⟨r9, e_9, hf⟩ := bns hf
    refine kR (rV (rest := [.int x7]) C (c_X12_all l D g a M r9 e_9) ok_X12_all wd_842 hP 0 (aM_0 g a M) rfl ⟨rfl, rfl, Nat.le_of_ble_eq_true rfl, Nat.le_of_ble_eq_true rfl⟩ rfl hl.1 rfl (Nat.le_of_ble_eq_true rfl) dX12_oval_57 ⟨Nat.le_of_ble_eq_true rfl, Nat.le_of_ble_eq_true rfl⟩) ?_
    refine lv_icmp_ge (tgt := 174) hx hb dX12_oval_60 (by decide) (fun c_10 => ?_) (fun c_10 => ?_)
    · have hf := ifp c_10 hf
      refine lv_iload_n hx hb dX12_oval_174 rfl (lv_at hl 3 rfl) ?_
      refine lv_if_ne (tgt := 183) hx hb dX12_oval_175 (by decide) (fun c_11 => ?_) (fun c_11 => ?_)
      · have hf := ifn c_11 hf
        refine lv_iload_n hx hb dX12_oval_183 rfl (lv_at hl 3 rfl) ?_
        refine lv_iconst (v := 1) hx hb dX12_oval_184 (by decide) ?_
        refine lv_icmp_ne (tgt := 193) hx hb dX12_oval_185 (by decide) (fun c_12 => ?_) (fun c_12 => ?_)
        · have hf := ifn c_12 hf
          refine lv_iload hx hb dX12_oval_193 (lv_at hl 6 rfl) ?_
          obtain rfl := Option.some.inj hf
          exact retR C dX12_oval_195
        · have hf := ifp c_12 hf
          refine lv_iload hx hb dX12_oval_188 (lv_at hl 5 rfl) ?_
          refine lv_goto (tgt := 195) hx hb dX12_oval_190 (by decide) ?_
          obtain rfl := Option.some.inj hf
          exact retR C dX12_oval_195
      · have hf := ifp c_11 hf
        refine lv_iload hx hb dX12_oval_178 (lv_at hl 4 rfl) ?_
        refine lv_goto (tgt := 195) hx hb dX12_oval_180 (by decide) ?_
        obtain rfl := Option.some.inj hf
        exact retR C dX12_oval_195
    · have hf := ifn c_10 hf
      refine lv_iload hx hb dX12_oval_63 (lv_at hl 7 rfl) ?_
      refine lv_istore (lv' := [(8, .int x7), (0, .ref (a 0)), (1, .int x1), (2, .int x2), (3, .int x3), (4, .int x4), (5, .int x5), (6, .int x6), (7, .int x7)]) hx hb dX12_oval_65 hl (by decide) rfl (fun ls hl => ?_)
      refine w_X12_oval_l67 C N M hP x1 x2 x7 x3 r _ (fun y4_21 y5_21 y6_21 ls hl hf => ?_) N x4 x5 x6 x7 ls (lv_sub hl [1, 2, 3, 4, 5, 6, 7, 8, 0] rfl) hf
      refine lv_iinc (v := (x7 + 1)) (lv' := [(7, .int (x7 + 1)), (0, .ref (a 0)), (1, .int x1), (2, .int x2), (3, .int x3), (4, .int y4_21), (5, .int y5_21), (6, .int y6_21)]) hx hb dX12_oval_168 hl (k := 7) rfl rfl (by decide) rfl (fun ls hl => ?_)
      refine lv_goto (tgt := 54) hx hb dX12_oval_171 (by decide) ?_
      exact ih y4_21 y5_21 y6_21 (x7 + 1) ls (lv_sub hl [1, 2, 3, 4, 5, 6, 7, 0] rfl) hf
set_option maxHeartbeats 4000000 in
set_option maxRecDepth 100000 in
theorem c_X12_oval (l : Launch) (D : va_G) (g : Nat → ClassId) (a : Nat → Nat) (N : Nat) (M : Mem) (x1 : Int32) (x2 : Int32) (x3 : Int32) (r : Int32) (hf : f_X12_oval N M x1 x2 x3 = some r) : Met l yX12_oval (cW yX12_oval cX12_oval 10 (some .int)) (rmv 3 74) (Pw D (tyL g) (wM g a M) [.ref (a 0), .int x1, .int x2, .int x3]) (RdQ (.int r)) 0 0 nof := by
  unfold f_X12_oval at hf
  refine met_in (by decide) (Nat.le_of_ble_eq_true rfl) ?_
  intro p e s m args below meth c ls C hP hl
  have C : Cx p s m args meth c cX12_oval 10 (some .int) RX12 D (tyL g) := C
  obtain ⟨hx, hb, hr, hml, hown, ht, hlocks, hK, hN⟩ := id C
  have hl : lv_has ls 10 [(0, .ref (a 0)), (1, .int x1), (2, .int x2), (3, .int x3)] := hl
  refine lv_iload_n hx hb dX12_oval_0 rfl (lv_at hl 1 rfl) ?_
  obtain ⟨r1, e_1, hf⟩ := bns hf
  refine kR (rS (rest := []) C (c_X12_isMonth l D (tyL g) (wM g a M) x1 r1 e_1) ok_X12_isMonth wd_858 hP ⟨rfl, rfl, Nat.le_of_ble_eq_true rfl, Nat.le_of_ble_eq_true rfl⟩ rfl hl.1 rfl (Nat.le_of_ble_eq_true rfl) dX12_oval_1 ⟨Nat.le_of_ble_eq_true rfl, Nat.le_of_ble_eq_true rfl⟩) ?_
  refine lv_if_ne (tgt := 9) hx hb dX12_oval_4 (by decide) (fun c_2 => ?_) (fun c_2 => ?_)
  · have hf := ifn c_2 hf
    refine lv_iload_n hx hb dX12_oval_9 rfl (lv_at hl 2 rfl) ?_
    refine lv_iconst (v := 0) hx hb dX12_oval_10 (by decide) ?_
    refine lv_sipush (v := 999) hx hb dX12_oval_11 (by decide) ?_
    obtain ⟨r3, e_3, hf⟩ := bns hf
    refine kR (rS (rest := []) C (c_X12_within l D (tyL g) (wM g a M) x2 0 999 r3 e_3) ok_X12_within wd_816 hP ⟨rfl, rfl, Nat.le_of_ble_eq_true rfl, Nat.le_of_ble_eq_true rfl⟩ rfl hl.1 rfl (Nat.le_of_ble_eq_true rfl) dX12_oval_14 ⟨Nat.le_of_ble_eq_true rfl, Nat.le_of_ble_eq_true rfl⟩) ?_
    refine lv_if_eq (tgt := 29) hx hb dX12_oval_17 (by decide) (fun c_4 => ?_) (fun c_4 => ?_)
    · have hf := ifp c_4 hf
      refine lv_bipush (v := (-2)) hx hb dX12_oval_29 (by decide) ?_
      obtain rfl := Option.some.inj hf
      exact retR C dX12_oval_31
    · have hf := ifn c_4 hf
      refine lv_iload_n hx hb dX12_oval_20 rfl (lv_at hl 3 rfl) ?_
      refine lv_iconst (v := 0) hx hb dX12_oval_21 (by decide) ?_
      refine lv_iconst (v := 2) hx hb dX12_oval_22 (by decide) ?_
      obtain ⟨r5, e_5, hf⟩ := bns hf
      refine kR (rS (rest := []) C (c_X12_within l D (tyL g) (wM g a M) x3 0 2 r5 e_5) ok_X12_within wd_816 hP ⟨rfl, rfl, Nat.le_of_ble_eq_true rfl, Nat.le_of_ble_eq_true rfl⟩ rfl hl.1 rfl (Nat.le_of_ble_eq_true rfl) dX12_oval_23 ⟨Nat.le_of_ble_eq_true rfl, Nat.le_of_ble_eq_true rfl⟩) ?_
      refine lv_if_ne (tgt := 32) hx hb dX12_oval_26 (by decide) (fun c_6 => ?_) (fun c_6 => ?_)
      · have hf := ifn c_6 hf
        refine lv_aload_n hx hb dX12_oval_32 rfl (lv_at hl 0 rfl) ?_
        obtain ⟨r7, e_7, hf⟩ := bns hf
        refine kR (rV (rest := []) C (c_X12_all l D g a M r7 e_7) ok_X12_all wd_842 hP 0 (aM_0 g a M) rfl ⟨rfl, rfl, Nat.le_of_ble_eq_true rfl, Nat.le_of_ble_eq_true rfl⟩ rfl hl.1 rfl (Nat.le_of_ble_eq_true rfl) dX12_oval_33 ⟨Nat.le_of_ble_eq_true rfl, Nat.le_of_ble_eq_true rfl⟩) ?_
        refine lv_if_ne (tgt := 42) hx hb dX12_oval_36 (by decide) (fun c_8 => ?_) (fun c_8 => ?_)
        · have hf := ifn c_8 hf
          refine lv_iconst (v := 0) hx hb dX12_oval_42 (by decide) ?_
          refine lv_istore (lv' := [(4, .int 0), (0, .ref (a 0)), (1, .int x1), (2, .int x2), (3, .int x3)]) hx hb dX12_oval_43 hl (by decide) rfl (fun ls hl => ?_)
          refine lv_iconst (v := 0) hx hb dX12_oval_45 (by decide) ?_
          refine lv_istore (lv' := [(5, .int 0), (4, .int 0), (0, .ref (a 0)), (1, .int x1), (2, .int x2), (3, .int x3)]) hx hb dX12_oval_46 hl (by decide) rfl (fun ls hl => ?_)
          refine lv_iconst (v := 0) hx hb dX12_oval_48 (by decide) ?_
          refine lv_istore (lv' := [(6, .int 0), (5, .int 0), (4, .int 0), (0, .ref (a 0)), (1, .int x1), (2, .int x2), (3, .int x3)]) hx hb dX12_oval_49 hl (by decide) rfl (fun ls hl => ?_)
          refine lv_iconst (v := 0) hx hb dX12_oval_51 (by decide) ?_
          refine lv_istore (lv' := [(7, .int 0), (6, .int 0), (5, .int 0), (4, .int 0), (0, .ref (a 0)), (1, .int x1), (2, .int x2), (3, .int x3)]) hx hb dX12_oval_52 hl (by decide) rfl (fun ls hl => ?_)
          exact w_X12_oval_l54 C N M hP x1 x2 x3 r N 0 0 0 0 ls (lv_sub hl [4, 5, 6, 7, 3, 2, 1, 0] rfl) hf
        · have hf := ifp c_8 hf
          refine lv_bipush (v := (-3)) hx hb dX12_oval_39 (by decide) ?_
          obtain rfl := Option.some.inj hf
          exact retR C dX12_oval_41
      · have hf := ifp c_6 hf
        refine lv_bipush (v := (-2)) hx hb dX12_oval_29 (by decide) ?_
        obtain rfl := Option.some.inj hf
        exact retR C dX12_oval_31
  · have hf := ifp c_2 hf
    refine lv_iconst (v := (-1)) hx hb dX12_oval_7 (by decide) ?_
    obtain rfl := Option.some.inj hf
    exact retR C dX12_oval_8
