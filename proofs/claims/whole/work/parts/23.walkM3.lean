set_option maxHeartbeats 4000000 in
set_option maxRecDepth 100000 in
theorem c_X12_isEdge (l : Launch) (D : va_G) (g : Nat → ClassId) (a : Nat → Nat) (M : Mem) (x1 : Int32) (r : Int32) (hf : f_X12_isEdge M x1 = some r) : Met l yX12_isEdge (cW yX12_isEdge cX12_isEdge 2 (some .boolean)) (rmv 0 0) (Pw D (tyL g) (wM g a M) [.ref (a 0), .int x1]) (RdQ (.int r)) 0 0 nof := by
  unfold f_X12_isEdge at hf
  refine met_in (by decide) (Nat.le_of_ble_eq_true rfl) ?_
  intro p e s m args below meth c ls C hP hl
  have C : Cx p s m args meth c cX12_isEdge 2 (some .boolean) RX12 D (tyL g) := C
  obtain ⟨hx, hb, hr, hml, hown, ht, hlocks, hK, hN⟩ := id C
  have hl : lv_has ls 2 [(0, .ref (a 0)), (1, .int x1)] := hl
  refine lv_iload_n hx hb dX12_isEdge_0 rfl (lv_at hl 1 rfl) ?_
  refine lv_aload_n hx hb dX12_isEdge_1 rfl (lv_at hl 0 rfl) ?_
  refine fg_X12_75 C hP dX12_isEdge_2 ?_
  obtain ⟨h_1, hf⟩ := ifs hf
  refine lv_idiv hx hb dX12_isEdge_5 h_1 ?_
  refine lv_if_eq (tgt := 48) hx hb dX12_isEdge_6 (by decide) (fun c_2 => ?_) (fun c_2 => ?_)
  · have hf := ifp c_2 hf
    refine lv_iconst (v := 1) hx hb dX12_isEdge_48 (by decide) ?_
    refine lv_goto (tgt := 53) hx hb dX12_isEdge_49 (by decide) ?_
    obtain rfl := Option.some.inj hf
    exact retRz C (Or.inr rfl) dX12_isEdge_53
  · have hf := ifn c_2 hf
    refine lv_iload_n hx hb dX12_isEdge_9 rfl (lv_at hl 1 rfl) ?_
    refine lv_aload_n hx hb dX12_isEdge_10 rfl (lv_at hl 0 rfl) ?_
    refine fg_X12_75 C hP dX12_isEdge_11 ?_
    refine lv_idiv hx hb dX12_isEdge_14 h_1 ?_
    refine lv_aload_n hx hb dX12_isEdge_15 rfl (lv_at hl 0 rfl) ?_
    refine fg_X12_72 C hP dX12_isEdge_16 ?_
    refine lv_iconst (v := 1) hx hb dX12_isEdge_19 (by decide) ?_
    refine lv_isub hx hb dX12_isEdge_20 ?_
    refine lv_icmp_eq (tgt := 48) hx hb dX12_isEdge_21 (by decide) (fun c_3 => ?_) (fun c_3 => ?_)
    · have hf := ifp c_3 hf
      refine lv_iconst (v := 1) hx hb dX12_isEdge_48 (by decide) ?_
      refine lv_goto (tgt := 53) hx hb dX12_isEdge_49 (by decide) ?_
      obtain rfl := Option.some.inj hf
      exact retRz C (Or.inr rfl) dX12_isEdge_53
    · have hf := ifn c_3 hf
      refine lv_iload_n hx hb dX12_isEdge_24 rfl (lv_at hl 1 rfl) ?_
      refine lv_aload_n hx hb dX12_isEdge_25 rfl (lv_at hl 0 rfl) ?_
      refine fg_X12_75 C hP dX12_isEdge_26 ?_
      refine lv_irem hx hb dX12_isEdge_29 h_1 ?_
      refine lv_if_eq (tgt := 48) hx hb dX12_isEdge_30 (by decide) (fun c_4 => ?_) (fun c_4 => ?_)
      · have hf := ifp c_4 hf
        refine lv_iconst (v := 1) hx hb dX12_isEdge_48 (by decide) ?_
        refine lv_goto (tgt := 53) hx hb dX12_isEdge_49 (by decide) ?_
        obtain rfl := Option.some.inj hf
        exact retRz C (Or.inr rfl) dX12_isEdge_53
      · have hf := ifn c_4 hf
        refine lv_iload_n hx hb dX12_isEdge_33 rfl (lv_at hl 1 rfl) ?_
        refine lv_aload_n hx hb dX12_isEdge_34 rfl (lv_at hl 0 rfl) ?_
        refine fg_X12_75 C hP dX12_isEdge_35 ?_
        refine lv_irem hx hb dX12_isEdge_38 h_1 ?_
        refine lv_aload_n hx hb dX12_isEdge_39 rfl (lv_at hl 0 rfl) ?_
        refine fg_X12_75 C hP dX12_isEdge_40 ?_
        refine lv_iconst (v := 1) hx hb dX12_isEdge_43 (by decide) ?_
        refine lv_isub hx hb dX12_isEdge_44 ?_
        refine lv_icmp_ne (tgt := 52) hx hb dX12_isEdge_45 (by decide) (fun c_5 => ?_) (fun c_5 => ?_)
        · have hf := ifn c_5 hf
          refine lv_iconst (v := 0) hx hb dX12_isEdge_52 (by decide) ?_
          obtain rfl := Option.some.inj hf
          exact retRz C (Or.inl rfl) dX12_isEdge_53
        · have hf := ifp c_5 hf
          refine lv_iconst (v := 1) hx hb dX12_isEdge_48 (by decide) ?_
          refine lv_goto (tgt := 53) hx hb dX12_isEdge_49 (by decide) ?_
          obtain rfl := Option.some.inj hf
          exact retRz C (Or.inr rfl) dX12_isEdge_53
set_option maxHeartbeats 4000000 in
set_option maxRecDepth 100000 in
theorem w_X12_findWater_l64 {p : Program} {l : Launch} {e : Env} {s : State} {m : MethodId} {args : Array Value} {below : List Frame} {meth : Method} {c : Code} {D : va_G} {g : Nat → ClassId} {a : Nat → Nat} (C : Cx p s m args meth c cX12_findWater 7 none RX12 D (tyL g)) (hJ : Inj a 18) (N : Nat) (x1 : Int32) (x3 : Int32) (x2 : Int32) (M' : Mem) (kc : Mem → Option (Mem)) (hkc : ∀ (M : Mem), ∀ (H : Heap) (locs : List Loc), va_P D clL (wM g a M) H → va_S (inA a 18) s.heap H locs → ∀ (ls : Array Slot), lv_has ls 7 [(0, .ref (a 0)), (1, .int x1), (2, .int x2), (3, .int x3)] → kc M = some M' → W p l e (rmv 2 46) s m args below meth c H locs 0 0 (MQ below (WvQ D (wM g a M') (inA a 18)) args s 0 0 (inA a 18)) (F0 m 162 ls [])) :
    ∀ (n : Nat) (M : Mem) (x4 : Int32), ∀ (H : Heap) (locs : List Loc), va_P D clL (wM g a M) H → va_S (inA a 18) s.heap H locs → ∀ (ls : Array Slot), lv_has ls 7 [(0, .ref (a 0)), (1, .int x1), (2, .int x2), (3, .int x3), (4, .int x4)] → f_X12_findWater_l64 kc N x1 x3 n M x4 = some M' → W p l e (rmv 2 46) s m args below meth c H locs 0 0 (MQ below (WvQ D (wM g a M') (inA a 18)) args s 0 0 (inA a 18)) (F0 m 64 ls []) := by
  obtain ⟨hx, hb, hr, hml, hown, ht, hlocks, hK, hN⟩ := id C
  intro n
  induction n with
  | zero =>
    intro M x4 H locs hP hS ls hl hf
    exact nos hf
  | succ n ih =>
    intro M x4 H locs hP hS ls hl hf
    rw [f_X12_findWater_l64] at hf
    refine lv_iload hx hb dX12_findWater_64 (lv_at hl 4 rfl) ?_
    refine lv_iconst (v := 4) hx hb dX12_findWater_66 (by decide) ?_
    refine lv_icmp_ge (tgt := 162) hx hb dX12_findWater_67 (by decide) (fun c_7 => ?_) (fun c_7 => ?_)
    · have hf := ifp c_7 hf
      exact hkc M H locs hP hS ls (lv_sub hl [0, 1, 2, 3] rfl) hf
    · have hf := ifn c_7 hf
      refine lv_aload_n hx hb dX12_findWater_70 rfl (lv_at hl 0 rfl) ?_
      refine lv_iload_n hx hb dX12_findWater_71 rfl (lv_at hl 3 rfl) ?_
      refine lv_iload hx hb dX12_findWater_72 (lv_at hl 4 rfl) ?_
      obtain ⟨r8, e_8, hf⟩ := bns hf
      refine kR (rV (rest := []) C (c_X12_beside l D g a M x3 x4 r8 e_8) ok_X12_beside wd_890 hP 0 (aM_0 g a M) rfl ⟨rfl, rfl, Nat.le_of_ble_eq_true rfl, Nat.le_of_ble_eq_true rfl⟩ rfl hl.1 rfl (Nat.le_of_ble_eq_true rfl) dX12_findWater_74 ⟨Nat.le_of_ble_eq_true rfl, Nat.le_of_ble_eq_true rfl⟩) ?_
      refine lv_istore (lv' := [(5, .int r8), (0, .ref (a 0)), (1, .int x1), (2, .int x2), (3, .int x3), (4, .int x4)]) hx hb dX12_findWater_77 hl (by decide) rfl (fun ls hl => ?_)
      refine lv_iload hx hb dX12_findWater_79 (lv_at hl 0 rfl) ?_
      refine lv_bipush (v := (-9)) hx hb dX12_findWater_81 (by decide) ?_
      refine lv_icmp_eq (tgt := 156) hx hb dX12_findWater_83 (by decide) (fun c_9 => ?_) (fun c_9 => ?_)
      · have hf := ifp c_9 hf
        refine lv_iinc (v := (x4 + 1)) (lv' := [(4, .int (x4 + 1)), (5, .int r8), (0, .ref (a 0)), (1, .int x1), (2, .int x2), (3, .int x3)]) hx hb dX12_findWater_156 hl (k := 5) rfl rfl (by decide) rfl (fun ls hl => ?_)
        refine lv_goto (tgt := 64) hx hb dX12_findWater_159 (by decide) ?_
        exact ih M (x4 + 1) H locs hP hS ls (lv_sub hl [2, 3, 4, 5, 0] rfl) hf
      · have hf := ifn c_9 hf
        refine lv_aload_n hx hb dX12_findWater_86 rfl (lv_at hl 1 rfl) ?_
        refine lv_iload_n hx hb dX12_findWater_87 rfl (lv_at hl 4 rfl) ?_
        obtain ⟨r10, e_10, hf⟩ := bns hf
        refine kR (rV (rest := []) C (c_X12_isEdge l D g a M x3 r10 e_10) ok_X12_isEdge wd_949 hP 0 (aM_0 g a M) rfl ⟨rfl, rfl, Nat.le_of_ble_eq_true rfl, Nat.le_of_ble_eq_true rfl⟩ rfl hl.1 rfl (Nat.le_of_ble_eq_true rfl) dX12_findWater_88 ⟨Nat.le_of_ble_eq_true rfl, Nat.le_of_ble_eq_true rfl⟩) ?_
        refine lv_if_ne (tgt := 156) hx hb dX12_findWater_91 (by decide) (fun c_11 => ?_) (fun c_11 => ?_)
        · have hf := ifn c_11 hf
          refine lv_iinc (v := (x4 + 1)) (lv' := [(4, .int (x4 + 1)), (5, .int r8), (0, .ref (a 0)), (1, .int x1), (2, .int x2), (3, .int x3)]) hx hb dX12_findWater_156 hl (k := 5) rfl rfl (by decide) rfl (fun ls hl => ?_)
          refine lv_goto (tgt := 64) hx hb dX12_findWater_159 (by decide) ?_
          exact ih M (x4 + 1) H locs hP hS ls (lv_sub hl [2, 3, 4, 5, 0] rfl) hf
        · have hf := ifp c_11 hf
          refine lv_aload_n hx hb dX12_findWater_94 rfl (lv_at hl 1 rfl) ?_
          refine fg_X12_43 C hP dX12_findWater_95 ?_
          refine lv_iload hx hb dX12_findWater_98 (lv_at hl 0 rfl) ?_
          obtain ⟨h_12, hf⟩ := ifs hf
          refine va_iald hx hb hK hP 12 0 (aM_12 g a M) rfl h_12 dX12_findWater_100 ?_
          refine lv_aload_n hx hb dX12_findWater_101 rfl (lv_at hl 1 rfl) ?_
          refine lv_iload_n hx hb dX12_findWater_102 rfl (lv_at hl 4 rfl) ?_
          refine lv_iload_n hx hb dX12_findWater_103 rfl (lv_at hl 2 rfl) ?_
          obtain ⟨r13, e_13, hf⟩ := bns hf
          refine kR (rV (rest := [.int (M 12 r8.toNatClampNeg)]) C (c_X12_heightOf l D g a M x3 x1 r13 e_13) ok_X12_heightOf wd_869 hP 0 (aM_0 g a M) rfl ⟨rfl, rfl, Nat.le_of_ble_eq_true rfl, Nat.le_of_ble_eq_true rfl⟩ rfl hl.1 rfl (Nat.le_of_ble_eq_true rfl) dX12_findWater_104 ⟨Nat.le_of_ble_eq_true rfl, Nat.le_of_ble_eq_true rfl⟩) ?_
          refine lv_icmp_le (tgt := 120) hx hb dX12_findWater_107 (by decide) (fun c_14 => ?_) (fun c_14 => ?_)
          · have hf := ifp c_14 hf
            refine lv_aload_n hx hb dX12_findWater_120 rfl (lv_at hl 1 rfl) ?_
            refine lv_iload_n hx hb dX12_findWater_121 rfl (lv_at hl 4 rfl) ?_
            refine lv_iload_n hx hb dX12_findWater_122 rfl (lv_at hl 2 rfl) ?_
            obtain ⟨r15, e_15, hf⟩ := bns hf
            refine kR (rV (rest := []) C (c_X12_heightOf l D g a M x3 x1 r15 e_15) ok_X12_heightOf wd_869 hP 0 (aM_0 g a M) rfl ⟨rfl, rfl, Nat.le_of_ble_eq_true rfl, Nat.le_of_ble_eq_true rfl⟩ rfl hl.1 rfl (Nat.le_of_ble_eq_true rfl) dX12_findWater_123 ⟨Nat.le_of_ble_eq_true rfl, Nat.le_of_ble_eq_true rfl⟩) ?_
            refine lv_istore (lv' := [(6, .int r15), (5, .int r8), (0, .ref (a 0)), (1, .int x1), (2, .int x2), (3, .int x3), (4, .int x4)]) hx hb dX12_findWater_126 hl (by decide) rfl (fun ls hl => ?_)
            refine lv_aload_n hx hb dX12_findWater_128 rfl (lv_at hl 2 rfl) ?_
            refine fg_X12_43 C hP dX12_findWater_129 ?_
            refine lv_iload_n hx hb dX12_findWater_132 rfl (lv_at hl 5 rfl) ?_
            refine lv_iload hx hb dX12_findWater_133 (lv_at hl 0 rfl) ?_
            refine lv_aload_n hx hb dX12_findWater_135 rfl (lv_at hl 2 rfl) ?_
            refine fg_X12_43 C hP dX12_findWater_136 ?_
            refine lv_iload_n hx hb dX12_findWater_139 rfl (lv_at hl 5 rfl) ?_
            obtain ⟨h_16, hf⟩ := ifs hf
            refine va_iald hx hb hK hP 12 0 (aM_12 g a M) rfl h_16 dX12_findWater_140 ?_
            refine lv_icmp_ge (tgt := 149) hx hb dX12_findWater_141 (by decide) (fun c_17 => ?_) (fun c_17 => ?_)
            · have hf := ifp c_17 hf
              refine lv_aload_n hx hb dX12_findWater_149 rfl (lv_at hl 2 rfl) ?_
              refine fg_X12_43 C hP dX12_findWater_150 ?_
              refine lv_iload_n hx hb dX12_findWater_153 rfl (lv_at hl 5 rfl) ?_
              refine va_iald hx hb hK hP 12 0 (aM_12 g a M) rfl h_16 dX12_findWater_154 ?_
              refine ast (wM g a) C hP (wM_D hJ) hS 12 0 (aM_12 g a M) rfl (sM_12 g a M) h_16 dX12_findWater_155 (fun H locs hP hS => ?_)
              obtain ⟨M18, eM18, hf⟩ := nms hf
              have hP : va_P D clL (wM g a M18) H := by rw [eM18]; exact hP
              refine lv_iinc (v := (x4 + 1)) (lv' := [(4, .int (x4 + 1)), (6, .int r15), (5, .int r8), (0, .ref (a 0)), (1, .int x1), (2, .int x2), (3, .int x3)]) hx hb dX12_findWater_156 hl (k := 6) rfl rfl (by decide) rfl (fun ls hl => ?_)
              refine lv_goto (tgt := 64) hx hb dX12_findWater_159 (by decide) ?_
              exact ih M18 (x4 + 1) H locs hP hS ls (lv_sub hl [3, 4, 5, 6, 0] rfl) hf
            · have hf := ifn c_17 hf
              refine lv_iload hx hb dX12_findWater_144 (lv_at hl 0 rfl) ?_
              refine lv_goto (tgt := 155) hx hb dX12_findWater_146 (by decide) ?_
              refine ast (wM g a) C hP (wM_D hJ) hS 12 0 (aM_12 g a M) rfl (sM_12 g a M) h_16 dX12_findWater_155 (fun H locs hP hS => ?_)
              obtain ⟨M19, eM19, hf⟩ := nms hf
              have hP : va_P D clL (wM g a M19) H := by rw [eM19]; exact hP
              refine lv_iinc (v := (x4 + 1)) (lv' := [(4, .int (x4 + 1)), (6, .int r15), (5, .int r8), (0, .ref (a 0)), (1, .int x1), (2, .int x2), (3, .int x3)]) hx hb dX12_findWater_156 hl (k := 6) rfl rfl (by decide) rfl (fun ls hl => ?_)
              refine lv_goto (tgt := 64) hx hb dX12_findWater_159 (by decide) ?_
              exact ih M19 (x4 + 1) H locs hP hS ls (lv_sub hl [3, 4, 5, 6, 0] rfl) hf
          · have hf := ifn c_14 hf
            refine lv_aload_n hx hb dX12_findWater_110 rfl (lv_at hl 1 rfl) ?_
            refine fg_X12_43 C hP dX12_findWater_111 ?_
            refine lv_iload hx hb dX12_findWater_114 (lv_at hl 0 rfl) ?_
            refine va_iald hx hb hK hP 12 0 (aM_12 g a M) rfl h_12 dX12_findWater_116 ?_
            refine lv_goto (tgt := 126) hx hb dX12_findWater_117 (by decide) ?_
            refine lv_topi (fun z20 ez20 => ?_)
            have hf := nmr ez20 hf
            refine lv_istore (lv' := [(6, .int z20), (5, .int r8), (0, .ref (a 0)), (1, .int x1), (2, .int x2), (3, .int x3), (4, .int x4)]) hx hb dX12_findWater_126 hl (by decide) rfl (fun ls hl => ?_)
            refine lv_aload_n hx hb dX12_findWater_128 rfl (lv_at hl 2 rfl) ?_
            refine fg_X12_43 C hP dX12_findWater_129 ?_
            refine lv_iload_n hx hb dX12_findWater_132 rfl (lv_at hl 5 rfl) ?_
            refine lv_iload hx hb dX12_findWater_133 (lv_at hl 0 rfl) ?_
            refine lv_aload_n hx hb dX12_findWater_135 rfl (lv_at hl 2 rfl) ?_
            refine fg_X12_43 C hP dX12_findWater_136 ?_
            refine lv_iload_n hx hb dX12_findWater_139 rfl (lv_at hl 5 rfl) ?_
            obtain ⟨h_21, hf⟩ := ifs hf
            refine va_iald hx hb hK hP 12 0 (aM_12 g a M) rfl h_21 dX12_findWater_140 ?_
            refine lv_icmp_ge (tgt := 149) hx hb dX12_findWater_141 (by decide) (fun c_22 => ?_) (fun c_22 => ?_)
            · have hf := ifp c_22 hf
              refine lv_aload_n hx hb dX12_findWater_149 rfl (lv_at hl 2 rfl) ?_
              refine fg_X12_43 C hP dX12_findWater_150 ?_
              refine lv_iload_n hx hb dX12_findWater_153 rfl (lv_at hl 5 rfl) ?_
              refine va_iald hx hb hK hP 12 0 (aM_12 g a M) rfl h_21 dX12_findWater_154 ?_
              refine ast (wM g a) C hP (wM_D hJ) hS 12 0 (aM_12 g a M) rfl (sM_12 g a M) h_21 dX12_findWater_155 (fun H locs hP hS => ?_)
              obtain ⟨M23, eM23, hf⟩ := nms hf
              have hP : va_P D clL (wM g a M23) H := by rw [eM23]; exact hP
              refine lv_iinc (v := (x4 + 1)) (lv' := [(4, .int (x4 + 1)), (6, .int z20), (5, .int r8), (0, .ref (a 0)), (1, .int x1), (2, .int x2), (3, .int x3)]) hx hb dX12_findWater_156 hl (k := 6) rfl rfl (by decide) rfl (fun ls hl => ?_)
              refine lv_goto (tgt := 64) hx hb dX12_findWater_159 (by decide) ?_
              exact ih M23 (x4 + 1) H locs hP hS ls (lv_sub hl [3, 4, 5, 6, 0] rfl) hf
            · have hf := ifn c_22 hf
              refine lv_iload hx hb dX12_findWater_144 (lv_at hl 0 rfl) ?_
              refine lv_goto (tgt := 155) hx hb dX12_findWater_146 (by decide) ?_
              refine ast (wM g a) C hP (wM_D hJ) hS 12 0 (aM_12 g a M) rfl (sM_12 g a M) h_21 dX12_findWater_155 (fun H locs hP hS => ?_)
              obtain ⟨M24, eM24, hf⟩ := nms hf
              have hP : va_P D clL (wM g a M24) H := by rw [eM24]; exact hP
              refine lv_iinc (v := (x4 + 1)) (lv' := [(4, .int (x4 + 1)), (6, .int z20), (5, .int r8), (0, .ref (a 0)), (1, .int x1), (2, .int x2), (3, .int x3)]) hx hb dX12_findWater_156 hl (k := 6) rfl rfl (by decide) rfl (fun ls hl => ?_)
              refine lv_goto (tgt := 64) hx hb dX12_findWater_159 (by decide) ?_
              exact ih M24 (x4 + 1) H locs hP hS ls (lv_sub hl [3, 4, 5, 6, 0] rfl) hf
set_option maxHeartbeats 4000000 in
set_option maxRecDepth 100000 in
theorem w_X12_findWater_l53 {p : Program} {l : Launch} {e : Env} {s : State} {m : MethodId} {args : Array Value} {below : List Frame} {meth : Method} {c : Code} {D : va_G} {g : Nat → ClassId} {a : Nat → Nat} (C : Cx p s m args meth c cX12_findWater 7 none RX12 D (tyL g)) (hJ : Inj a 18) (N : Nat) (x1 : Int32) (x2 : Int32) (M' : Mem) (kc : Mem → Option (Mem)) (hkc : ∀ (M : Mem), ∀ (H : Heap) (locs : List Loc), va_P D clL (wM g a M) H → va_S (inA a 18) s.heap H locs → ∀ (ls : Array Slot), lv_has ls 7 [(0, .ref (a 0)), (1, .int x1), (2, .int x2)] → kc M = some M' → W p l e (rmv 2 46) s m args below meth c H locs 0 0 (MQ below (WvQ D (wM g a M') (inA a 18)) args s 0 0 (inA a 18)) (F0 m 168 ls [])) :
    ∀ (n : Nat) (M : Mem) (x3 : Int32), ∀ (H : Heap) (locs : List Loc), va_P D clL (wM g a M) H → va_S (inA a 18) s.heap H locs → ∀ (ls : Array Slot), lv_has ls 7 [(0, .ref (a 0)), (1, .int x1), (2, .int x2), (3, .int x3)] → f_X12_findWater_l53 kc N x1 n M x3 = some M' → W p l e (rmv 2 46) s m args below meth c H locs 0 0 (MQ below (WvQ D (wM g a M') (inA a 18)) args s 0 0 (inA a 18)) (F0 m 53 ls []) := by
  obtain ⟨hx, hb, hr, hml, hown, ht, hlocks, hK, hN⟩ := id C
  intro n
  induction n with
  | zero =>
    intro M x3 H locs hP hS ls hl hf
    exact nos hf
  | succ n ih =>
    intro M x3 H locs hP hS ls hl hf
    rw [f_X12_findWater_l53] at hf
    refine lv_iload_n hx hb dX12_findWater_53 rfl (lv_at hl 3 rfl) ?_
    refine lv_aload_n hx hb dX12_findWater_54 rfl (lv_at hl 0 rfl) ?_
    obtain ⟨r5, e_5, hf⟩ := bns hf
    refine kR (rV (rest := [.int x3]) C (c_X12_all l D g a M r5 e_5) ok_X12_all wd_842 hP 0 (aM_0 g a M) rfl ⟨rfl, rfl, Nat.le_of_ble_eq_true rfl, Nat.le_of_ble_eq_true rfl⟩ rfl hl.1 rfl (Nat.le_of_ble_eq_true rfl) dX12_findWater_55 ⟨Nat.le_of_ble_eq_true rfl, Nat.le_of_ble_eq_true rfl⟩) ?_
    refine lv_icmp_ge (tgt := 168) hx hb dX12_findWater_58 (by decide) (fun c_6 => ?_) (fun c_6 => ?_)
    · have hf := ifp c_6 hf
      exact hkc M H locs hP hS ls (lv_sub hl [0, 1, 2] rfl) hf
    · have hf := ifn c_6 hf
      refine lv_iconst (v := 0) hx hb dX12_findWater_61 (by decide) ?_
      refine lv_istore (lv' := [(4, .int 0), (0, .ref (a 0)), (1, .int x1), (2, .int x2), (3, .int x3)]) hx hb dX12_findWater_62 hl (by decide) rfl (fun ls hl => ?_)
      refine w_X12_findWater_l64 C hJ N x1 x3 x2 M' _ (fun M25 H locs hP hS ls hl hf => ?_) N M 0 H locs hP hS ls (lv_sub hl [1, 2, 3, 4, 0] rfl) hf
      refine lv_iinc (v := (x3 + 1)) (lv' := [(3, .int (x3 + 1)), (0, .ref (a 0)), (1, .int x1), (2, .int x2)]) hx hb dX12_findWater_162 hl (k := 3) rfl rfl (by decide) rfl (fun ls hl => ?_)
      refine lv_goto (tgt := 53) hx hb dX12_findWater_165 (by decide) ?_
      exact ih M25 (x3 + 1) H locs hP hS ls (lv_sub hl [1, 2, 3, 0] rfl) hf
set_option maxHeartbeats 4000000 in
set_option maxRecDepth 100000 in
theorem w_X12_findWater_l43 {p : Program} {l : Launch} {e : Env} {s : State} {m : MethodId} {args : Array Value} {below : List Frame} {meth : Method} {c : Code} {D : va_G} {g : Nat → ClassId} {a : Nat → Nat} (C : Cx p s m args meth c cX12_findWater 7 none RX12 D (tyL g)) (hJ : Inj a 18) (N : Nat) (x1 : Int32) (M' : Mem) :
    ∀ (n : Nat) (M : Mem) (x2 : Int32), ∀ (H : Heap) (locs : List Loc), va_P D clL (wM g a M) H → va_S (inA a 18) s.heap H locs → ∀ (ls : Array Slot), lv_has ls 7 [(0, .ref (a 0)), (1, .int x1), (2, .int x2)] → f_X12_findWater_l43 N x1 n M x2 = some M' → W p l e (rmv 2 46) s m args below meth c H locs 0 0 (MQ below (WvQ D (wM g a M') (inA a 18)) args s 0 0 (inA a 18)) (F0 m 43 ls []) := by
  obtain ⟨hx, hb, hr, hml, hown, ht, hlocks, hK, hN⟩ := id C
  intro n
  induction n with
  | zero =>
    intro M x2 H locs hP hS ls hl hf
    exact nos hf
  | succ n ih =>
    intro M x2 H locs hP hS ls hl hf
    rw [f_X12_findWater_l43] at hf
    refine lv_iload_n hx hb dX12_findWater_43 rfl (lv_at hl 2 rfl) ?_
    refine lv_aload_n hx hb dX12_findWater_44 rfl (lv_at hl 0 rfl) ?_
    obtain ⟨r3, e_3, hf⟩ := bns hf
    refine kR (rV (rest := [.int x2]) C (c_X12_all l D g a M r3 e_3) ok_X12_all wd_842 hP 0 (aM_0 g a M) rfl ⟨rfl, rfl, Nat.le_of_ble_eq_true rfl, Nat.le_of_ble_eq_true rfl⟩ rfl hl.1 rfl (Nat.le_of_ble_eq_true rfl) dX12_findWater_45 ⟨Nat.le_of_ble_eq_true rfl, Nat.le_of_ble_eq_true rfl⟩) ?_
    refine lv_icmp_ge (tgt := 174) hx hb dX12_findWater_48 (by decide) (fun c_4 => ?_) (fun c_4 => ?_)
    · have hf := ifp c_4 hf
      obtain rfl := Option.some.inj hf
      exact retWv C hP hS dX12_findWater_174
    · have hf := ifn c_4 hf
      refine lv_iconst (v := 0) hx hb dX12_findWater_51 (by decide) ?_
      refine lv_istore_n (lv' := [(3, .int 0), (0, .ref (a 0)), (1, .int x1), (2, .int x2)]) hx hb dX12_findWater_52 rfl hl (by decide) rfl (fun ls hl => ?_)
      refine w_X12_findWater_l53 C hJ N x1 x2 M' _ (fun M26 H locs hP hS ls hl hf => ?_) N M 0 H locs hP hS ls (lv_sub hl [1, 2, 3, 0] rfl) hf
      refine lv_iinc (v := (x2 + 1)) (lv' := [(2, .int (x2 + 1)), (0, .ref (a 0)), (1, .int x1)]) hx hb dX12_findWater_168 hl (k := 2) rfl rfl (by decide) rfl (fun ls hl => ?_)
      refine lv_goto (tgt := 43) hx hb dX12_findWater_171 (by decide) ?_
      exact ih M26 (x2 + 1) H locs hP hS ls (lv_sub hl [1, 2, 0] rfl) hf
set_option maxHeartbeats 4000000 in
set_option maxRecDepth 100000 in
theorem w_X12_findWater_l2 {p : Program} {l : Launch} {e : Env} {s : State} {m : MethodId} {args : Array Value} {below : List Frame} {meth : Method} {c : Code} {D : va_G} {g : Nat → ClassId} {a : Nat → Nat} (C : Cx p s m args meth c cX12_findWater 7 none RX12 D (tyL g)) (hJ : Inj a 18) (N : Nat) (x1 : Int32) (M' : Mem) :
    ∀ (n : Nat) (M : Mem) (x2 : Int32), ∀ (H : Heap) (locs : List Loc), va_P D clL (wM g a M) H → va_S (inA a 18) s.heap H locs → ∀ (ls : Array Slot), lv_has ls 7 [(0, .ref (a 0)), (1, .int x1), (2, .int x2)] → f_X12_findWater_l2 N x1 n M x2 = some M' → W p l e (rmv 2 46) s m args below meth c H locs 0 0 (MQ below (WvQ D (wM g a M') (inA a 18)) args s 0 0 (inA a 18)) (F0 m 2 ls []) := by
  obtain ⟨hx, hb, hr, hml, hown, ht, hlocks, hK, hN⟩ := id C
  intro n
  induction n with
  | zero =>
    intro M x2 H locs hP hS ls hl hf
    exact nos hf
  | succ n ih =>
    intro M x2 H locs hP hS ls hl hf
    rw [f_X12_findWater_l2] at hf
    refine lv_iload_n hx hb dX12_findWater_2 rfl (lv_at hl 2 rfl) ?_
    refine lv_aload_n hx hb dX12_findWater_3 rfl (lv_at hl 0 rfl) ?_
    obtain ⟨r1, e_1, hf⟩ := bns hf
    refine kR (rV (rest := [.int x2]) C (c_X12_all l D g a M r1 e_1) ok_X12_all wd_842 hP 0 (aM_0 g a M) rfl ⟨rfl, rfl, Nat.le_of_ble_eq_true rfl, Nat.le_of_ble_eq_true rfl⟩ rfl hl.1 rfl (Nat.le_of_ble_eq_true rfl) dX12_findWater_4 ⟨Nat.le_of_ble_eq_true rfl, Nat.le_of_ble_eq_true rfl⟩) ?_
    refine lv_icmp_ge (tgt := 41) hx hb dX12_findWater_7 (by decide) (fun c_2 => ?_) (fun c_2 => ?_)
    · have hf := ifp c_2 hf
      refine lv_iconst (v := 0) hx hb dX12_findWater_41 (by decide) ?_
      refine lv_istore_n (lv' := [(2, .int 0), (0, .ref (a 0)), (1, .int x1)]) hx hb dX12_findWater_42 rfl hl (by decide) rfl (fun ls hl => ?_)
      exact w_X12_findWater_l43 C hJ N x1 M' N M 0 H locs hP hS ls (lv_sub hl [1, 2, 0] rfl) hf
    · have hf := ifn c_2 hf
      refine lv_aload_n hx hb dX12_findWater_10 rfl (lv_at hl 0 rfl) ?_
      refine fg_X12_43 C hP dX12_findWater_11 ?_
      refine lv_iload_n hx hb dX12_findWater_14 rfl (lv_at hl 2 rfl) ?_
      refine lv_aload_n hx hb dX12_findWater_15 rfl (lv_at hl 0 rfl) ?_
      refine lv_iload_n hx hb dX12_findWater_16 rfl (lv_at hl 2 rfl) ?_
      obtain ⟨r27, e_27, hf⟩ := bns hf
      refine kR (rV (rest := [.int x2, .ref (a 12)]) C (c_X12_isEdge l D g a M x2 r27 e_27) ok_X12_isEdge wd_949 hP 0 (aM_0 g a M) rfl ⟨rfl, rfl, Nat.le_of_ble_eq_true rfl, Nat.le_of_ble_eq_true rfl⟩ rfl hl.1 rfl (Nat.le_of_ble_eq_true rfl) dX12_findWater_17 ⟨Nat.le_of_ble_eq_true rfl, Nat.le_of_ble_eq_true rfl⟩) ?_
      refine lv_if_eq (tgt := 32) hx hb dX12_findWater_20 (by decide) (fun c_28 => ?_) (fun c_28 => ?_)
      · have hf := ifp c_28 hf
        refine lv_ldc hx hb hown (ht _ wd_889) dX12_findWater_32 ?_
        obtain ⟨h_29, hf⟩ := ifs hf
        refine ast (wM g a) C hP (wM_D hJ) hS 12 0 (aM_12 g a M) rfl (sM_12 g a M) h_29 dX12_findWater_34 (fun H locs hP hS => ?_)
        obtain ⟨M30, eM30, hf⟩ := nms hf
        have hP : va_P D clL (wM g a M30) H := by rw [eM30]; exact hP
        refine lv_iinc (v := (x2 + 1)) (lv' := [(2, .int (x2 + 1)), (0, .ref (a 0)), (1, .int x1)]) hx hb dX12_findWater_35 hl (k := 2) rfl rfl (by decide) rfl (fun ls hl => ?_)
        refine lv_goto (tgt := 2) hx hb dX12_findWater_38 (by decide) ?_
        exact ih M30 (x2 + 1) H locs hP hS ls (lv_sub hl [1, 2, 0] rfl) hf
      · have hf := ifn c_28 hf
        refine lv_aload_n hx hb dX12_findWater_23 rfl (lv_at hl 0 rfl) ?_
        refine lv_iload_n hx hb dX12_findWater_24 rfl (lv_at hl 2 rfl) ?_
        refine lv_iload_n hx hb dX12_findWater_25 rfl (lv_at hl 1 rfl) ?_
        obtain ⟨r31, e_31, hf⟩ := bns hf
        refine kR (rV (rest := [.int x2, .ref (a 12)]) C (c_X12_heightOf l D g a M x2 x1 r31 e_31) ok_X12_heightOf wd_869 hP 0 (aM_0 g a M) rfl ⟨rfl, rfl, Nat.le_of_ble_eq_true rfl, Nat.le_of_ble_eq_true rfl⟩ rfl hl.1 rfl (Nat.le_of_ble_eq_true rfl) dX12_findWater_26 ⟨Nat.le_of_ble_eq_true rfl, Nat.le_of_ble_eq_true rfl⟩) ?_
        refine lv_goto (tgt := 34) hx hb dX12_findWater_29 (by decide) ?_
        obtain ⟨h_32, hf⟩ := ifs hf
        refine ast (wM g a) C hP (wM_D hJ) hS 12 0 (aM_12 g a M) rfl (sM_12 g a M) h_32 dX12_findWater_34 (fun H locs hP hS => ?_)
        obtain ⟨M33, eM33, hf⟩ := nms hf
        have hP : va_P D clL (wM g a M33) H := by rw [eM33]; exact hP
        refine lv_iinc (v := (x2 + 1)) (lv' := [(2, .int (x2 + 1)), (0, .ref (a 0)), (1, .int x1)]) hx hb dX12_findWater_35 hl (k := 2) rfl rfl (by decide) rfl (fun ls hl => ?_)
        refine lv_goto (tgt := 2) hx hb dX12_findWater_38 (by decide) ?_
        exact ih M33 (x2 + 1) H locs hP hS ls (lv_sub hl [1, 2, 0] rfl) hf
set_option maxHeartbeats 4000000 in
set_option maxRecDepth 100000 in
theorem c_X12_findWater (l : Launch) (D : va_G) (g : Nat → ClassId) (a : Nat → Nat) (hJ : Inj a 18) (N : Nat) (M : Mem) (x1 : Int32) (M' : Mem) (hf : f_X12_findWater N M x1 = some M') : Met l yX12_findWater (cW yX12_findWater cX12_findWater 7 none) (rmv 2 46) (Pw D (tyL g) (wM g a M) [.ref (a 0), .int x1]) (WvQ D (wM g a M') (inA a 18)) 0 0 (inA a 18) := by
  unfold f_X12_findWater at hf
  refine met_inW (A := (inA a 18)) (by decide) (Nat.le_of_ble_eq_true rfl) ?_
  intro p e s m args below meth c ls H locs C hP hS hl
  have C : Cx p s m args meth c cX12_findWater 7 none RX12 D (tyL g) := C
  obtain ⟨hx, hb, hr, hml, hown, ht, hlocks, hK, hN⟩ := id C
  have hl : lv_has ls 7 [(0, .ref (a 0)), (1, .int x1)] := hl
  refine lv_iconst (v := 0) hx hb dX12_findWater_0 (by decide) ?_
  refine lv_istore_n (lv' := [(2, .int 0), (0, .ref (a 0)), (1, .int x1)]) hx hb dX12_findWater_1 rfl hl (by decide) rfl (fun ls hl => ?_)
  exact w_X12_findWater_l2 C hJ N x1 M' N M 0 H locs hP hS ls (lv_sub hl [1, 2, 0] rfl) hf
set_option maxHeartbeats 4000000 in
set_option maxRecDepth 100000 in
theorem c_X12_depth (l : Launch) (D : va_G) (g : Nat → ClassId) (a : Nat → Nat) (hJ : Inj a 18) (N : Nat) (M : Mem) (x1 : Int32) (x2 : Int32) (r : Int32) (M' : Mem) (hf : f_X12_depth N M x1 x2 = some (r, M')) : Met l yX12_depth (cW yX12_depth cX12_depth 3 (some .int)) (rmv 3 72) (Pw D (tyL g) (wM g a M) [.ref (a 0), .int x1, .int x2]) (WrQ D (wM g a M') (inA a 18) (.int r)) 0 0 (inA a 18) := by
  unfold f_X12_depth at hf
  refine met_inW (A := (inA a 18)) (by decide) (Nat.le_of_ble_eq_true rfl) ?_
  intro p e s m args below meth c ls H locs C hP hS hl
  have C : Cx p s m args meth c cX12_depth 3 (some .int) RX12 D (tyL g) := C
  obtain ⟨hx, hb, hr, hml, hown, ht, hlocks, hK, hN⟩ := id C
  have hl : lv_has ls 3 [(0, .ref (a 0)), (1, .int x1), (2, .int x2)] := hl
  refine lv_aload_n hx hb dX12_depth_0 rfl (lv_at hl 0 rfl) ?_
  refine lv_iload_n hx hb dX12_depth_1 rfl (lv_at hl 1 rfl) ?_
  obtain ⟨r1, e_1, hf⟩ := bns hf
  refine kR (rV (rest := []) C (c_X12_isStone l D g a M x1 r1 e_1) ok_X12_isStone wd_850 hP 0 (aM_0 g a M) rfl ⟨rfl, rfl, Nat.le_of_ble_eq_true rfl, Nat.le_of_ble_eq_true rfl⟩ rfl hl.1 rfl (Nat.le_of_ble_eq_true rfl) dX12_depth_2 ⟨Nat.le_of_ble_eq_true rfl, Nat.le_of_ble_eq_true rfl⟩) ?_
  refine lv_if_eq (tgt := 15) hx hb dX12_depth_5 (by decide) (fun c_2 => ?_) (fun c_2 => ?_)
  · have hf := ifp c_2 hf
    refine lv_iconst (v := (-1)) hx hb dX12_depth_15 (by decide) ?_
    obtain ⟨rfl, rfl⟩ := Prod.mk.inj (Option.some.inj hf)
    exact retW C hP hS dX12_depth_16
  · have hf := ifn c_2 hf
    refine lv_iload_n hx hb dX12_depth_8 rfl (lv_at hl 2 rfl) ?_
    obtain ⟨r3, e_3, hf⟩ := bns hf
    refine kR (rS (rest := []) C (c_X12_isMonth l D (tyL g) (wM g a M) x2 r3 e_3) ok_X12_isMonth wd_858 hP ⟨rfl, rfl, Nat.le_of_ble_eq_true rfl, Nat.le_of_ble_eq_true rfl⟩ rfl hl.1 rfl (Nat.le_of_ble_eq_true rfl) dX12_depth_9 ⟨Nat.le_of_ble_eq_true rfl, Nat.le_of_ble_eq_true rfl⟩) ?_
    refine lv_if_ne (tgt := 17) hx hb dX12_depth_12 (by decide) (fun c_4 => ?_) (fun c_4 => ?_)
    · have hf := ifn c_4 hf
      refine lv_aload_n hx hb dX12_depth_17 rfl (lv_at hl 0 rfl) ?_
      refine lv_iload_n hx hb dX12_depth_18 rfl (lv_at hl 2 rfl) ?_
      obtain ⟨M5, e_5, hf⟩ := bns hf
      refine kWv (rV (rest := []) C (c_X12_findWater l D g a hJ N M x2 M5 e_5) ok_X12_findWater wd_945 hP 0 (aM_0 g a M) rfl ⟨rfl, rfl, Nat.le_of_ble_eq_true rfl, Nat.le_of_ble_eq_true rfl⟩ rfl hl.1 rfl (Nat.le_of_ble_eq_true rfl) dX12_depth_19 ⟨Nat.le_of_ble_eq_true rfl, Nat.le_of_ble_eq_true rfl⟩) hS (fun H locs hP hS => ?_)
      refine lv_aload_n hx hb dX12_depth_22 rfl (lv_at hl 0 rfl) ?_
      refine fg_X12_43 C hP dX12_depth_23 ?_
      refine lv_iload_n hx hb dX12_depth_26 rfl (lv_at hl 1 rfl) ?_
      obtain ⟨h_6, hf⟩ := ifs hf
      refine va_iald hx hb hK hP 12 0 (aM_12 g a M5) rfl h_6 dX12_depth_27 ?_
      refine lv_aload_n hx hb dX12_depth_28 rfl (lv_at hl 0 rfl) ?_
      refine lv_iload_n hx hb dX12_depth_29 rfl (lv_at hl 1 rfl) ?_
      refine lv_iload_n hx hb dX12_depth_30 rfl (lv_at hl 2 rfl) ?_
      obtain ⟨r7, e_7, hf⟩ := bns hf
      refine kR (rV (rest := [.int (M5 12 x1.toNatClampNeg)]) C (c_X12_heightOf l D g a M5 x1 x2 r7 e_7) ok_X12_heightOf wd_869 hP 0 (aM_0 g a M5) rfl ⟨rfl, rfl, Nat.le_of_ble_eq_true rfl, Nat.le_of_ble_eq_true rfl⟩ rfl hl.1 rfl (Nat.le_of_ble_eq_true rfl) dX12_depth_31 ⟨Nat.le_of_ble_eq_true rfl, Nat.le_of_ble_eq_true rfl⟩) ?_
      refine lv_isub hx hb dX12_depth_34 ?_
      obtain ⟨rfl, rfl⟩ := Prod.mk.inj (Option.some.inj hf)
      exact retW C hP hS dX12_depth_35
    · have hf := ifp c_4 hf
      refine lv_iconst (v := (-1)) hx hb dX12_depth_15 (by decide) ?_
      obtain ⟨rfl, rfl⟩ := Prod.mk.inj (Option.some.inj hf)
      exact retW C hP hS dX12_depth_16
set_option maxHeartbeats 4000000 in
set_option maxRecDepth 100000 in
theorem w_X12_poolOf_l9 {p : Program} {l : Launch} {e : Env} {s : State} {m : MethodId} {args : Array Value} {below : List Frame} {meth : Method} {c : Code} {D : va_G} {g : Nat → ClassId} {a : Nat → Nat} (C : Cx p s m args meth c cX12_poolOf 4 (some .int) RX12 D (tyL g)) (hJ : Inj a 18) (N : Nat) (M : Mem) (H : Heap) (locs : List Loc) (hP : va_P D clL (wM g a M) H) (hS : va_S (inA a 18) s.heap H locs) (x1 : Int32) (r : Int32) (M' : Mem) :
    ∀ (n : Nat) (x2 : Int32) (x3 : Int32), ∀ (ls : Array Slot), lv_has ls 4 [(0, .ref (a 0)), (1, .int x1), (2, .int x2), (3, .int x3)] → f_X12_poolOf_l9 N M x1 n x2 x3 = some (r, M') → W p l e (rmv 3 72) s m args below meth c H locs 0 0 (MQ below (WrQ D (wM g a M') (inA a 18) (.int r)) args s 0 0 (inA a 18)) (F0 m 9 ls []) := by
  obtain ⟨hx, hb, hr, hml, hown, ht, hlocks, hK, hN⟩ := id C
  intro n
  induction n with
  | zero =>
    intro x2 x3 ls hl hf
    exact nos hf
  | succ n ih =>
    intro x2 x3 ls hl hf
    rw [f_X12_poolOf_l9] at hf
    refine lv_iload_n hx hb dX12_poolOf_9 rfl (lv_at hl 3 rfl) ?_
    refine lv_aload_n hx hb dX12_poolOf_10 rfl (lv_at hl 0 rfl) ?_
    obtain ⟨r2, e_2, hf⟩ := bns hf
    refine kR (rV (rest := [.int x3]) C (c_X12_all l D g a M r2 e_2) ok_X12_all wd_842 hP 0 (aM_0 g a M) rfl ⟨rfl, rfl, Nat.le_of_ble_eq_true rfl, Nat.le_of_ble_eq_true rfl⟩ rfl hl.1 rfl (Nat.le_of_ble_eq_true rfl) dX12_poolOf_11 ⟨Nat.le_of_ble_eq_true rfl, Nat.le_of_ble_eq_true rfl⟩) ?_
    refine lv_icmp_ge (tgt := 39) hx hb dX12_poolOf_14 (by decide) (fun c_3 => ?_) (fun c_3 => ?_)
    · have hf := ifp c_3 hf
      refine lv_iload_n hx hb dX12_poolOf_39 rfl (lv_at hl 2 rfl) ?_
      obtain ⟨rfl, rfl⟩ := Prod.mk.inj (Option.some.inj hf)
      exact retW C hP hS dX12_poolOf_40
    · have hf := ifn c_3 hf
      refine lv_iload_n hx hb dX12_poolOf_17 rfl (lv_at hl 2 rfl) ?_
      refine lv_aload_n hx hb dX12_poolOf_18 rfl (lv_at hl 0 rfl) ?_
      refine fg_X12_43 C hP dX12_poolOf_19 ?_
      refine lv_iload_n hx hb dX12_poolOf_22 rfl (lv_at hl 3 rfl) ?_
      obtain ⟨h_4, hf⟩ := ifs hf
      refine va_iald hx hb hK hP 12 0 (aM_12 g a M) rfl h_4 dX12_poolOf_23 ?_
      refine lv_aload_n hx hb dX12_poolOf_24 rfl (lv_at hl 0 rfl) ?_
      refine lv_iload_n hx hb dX12_poolOf_25 rfl (lv_at hl 3 rfl) ?_
      refine lv_iload_n hx hb dX12_poolOf_26 rfl (lv_at hl 1 rfl) ?_
      obtain ⟨r5, e_5, hf⟩ := bns hf
      refine kR (rV (rest := [.int (M 12 x3.toNatClampNeg), .int x2]) C (c_X12_heightOf l D g a M x3 x1 r5 e_5) ok_X12_heightOf wd_869 hP 0 (aM_0 g a M) rfl ⟨rfl, rfl, Nat.le_of_ble_eq_true rfl, Nat.le_of_ble_eq_true rfl⟩ rfl hl.1 rfl (Nat.le_of_ble_eq_true rfl) dX12_poolOf_27 ⟨Nat.le_of_ble_eq_true rfl, Nat.le_of_ble_eq_true rfl⟩) ?_
      refine lv_isub hx hb dX12_poolOf_30 ?_
      refine lv_iadd hx hb dX12_poolOf_31 ?_
      refine lv_topi (fun z6 ez6 => ?_)
      have hf := nmr ez6 hf
      refine lv_istore_n (lv' := [(2, .int z6), (0, .ref (a 0)), (1, .int x1), (3, .int x3)]) hx hb dX12_poolOf_32 rfl hl (by decide) rfl (fun ls hl => ?_)
      refine lv_iinc (v := (x3 + 1)) (lv' := [(3, .int (x3 + 1)), (2, .int z6), (0, .ref (a 0)), (1, .int x1)]) hx hb dX12_poolOf_33 hl (k := 3) rfl rfl (by decide) rfl (fun ls hl => ?_)
      refine lv_goto (tgt := 9) hx hb dX12_poolOf_36 (by decide) ?_
      exact ih z6 (x3 + 1) ls (lv_sub hl [2, 3, 1, 0] rfl) hf
set_option maxHeartbeats 4000000 in
set_option maxRecDepth 100000 in
theorem c_X12_poolOf (l : Launch) (D : va_G) (g : Nat → ClassId) (a : Nat → Nat) (hJ : Inj a 18) (N : Nat) (M : Mem) (x1 : Int32) (r : Int32) (M' : Mem) (hf : f_X12_poolOf N M x1 = some (r, M')) : Met l yX12_poolOf (cW yX12_poolOf cX12_poolOf 4 (some .int)) (rmv 3 72) (Pw D (tyL g) (wM g a M) [.ref (a 0), .int x1]) (WrQ D (wM g a M') (inA a 18) (.int r)) 0 0 (inA a 18) := by
  unfold f_X12_poolOf at hf
  refine met_inW (A := (inA a 18)) (by decide) (Nat.le_of_ble_eq_true rfl) ?_
  intro p e s m args below meth c ls H locs C hP hS hl
  have C : Cx p s m args meth c cX12_poolOf 4 (some .int) RX12 D (tyL g) := C
  obtain ⟨hx, hb, hr, hml, hown, ht, hlocks, hK, hN⟩ := id C
  have hl : lv_has ls 4 [(0, .ref (a 0)), (1, .int x1)] := hl
  refine lv_aload_n hx hb dX12_poolOf_0 rfl (lv_at hl 0 rfl) ?_
  refine lv_iload_n hx hb dX12_poolOf_1 rfl (lv_at hl 1 rfl) ?_
  obtain ⟨M1, e_1, hf⟩ := bns hf
  refine kWv (rV (rest := []) C (c_X12_findWater l D g a hJ N M x1 M1 e_1) ok_X12_findWater wd_945 hP 0 (aM_0 g a M) rfl ⟨rfl, rfl, Nat.le_of_ble_eq_true rfl, Nat.le_of_ble_eq_true rfl⟩ rfl hl.1 rfl (Nat.le_of_ble_eq_true rfl) dX12_poolOf_2 ⟨Nat.le_of_ble_eq_true rfl, Nat.le_of_ble_eq_true rfl⟩) hS (fun H locs hP hS => ?_)
  refine lv_iconst (v := 0) hx hb dX12_poolOf_5 (by decide) ?_
  refine lv_istore_n (lv' := [(2, .int 0), (0, .ref (a 0)), (1, .int x1)]) hx hb dX12_poolOf_6 rfl hl (by decide) rfl (fun ls hl => ?_)
  refine lv_iconst (v := 0) hx hb dX12_poolOf_7 (by decide) ?_
  refine lv_istore_n (lv' := [(3, .int 0), (2, .int 0), (0, .ref (a 0)), (1, .int x1)]) hx hb dX12_poolOf_8 rfl hl (by decide) rfl (fun ls hl => ?_)
  exact w_X12_poolOf_l9 C hJ N M1 H locs hP hS x1 r M' N 0 0 ls (lv_sub hl [2, 3, 1, 0] rfl) hf
set_option maxHeartbeats 4000000 in
set_option maxRecDepth 100000 in
theorem c_X12_pool (l : Launch) (D : va_G) (g : Nat → ClassId) (a : Nat → Nat) (hJ : Inj a 18) (N : Nat) (M : Mem) (x1 : Int32) (r : Int32) (M' : Mem) (hf : f_X12_pool N M x1 = some (r, M')) : Met l yX12_pool (cW yX12_pool cX12_pool 2 (some .int)) (rmv 4 95) (Pw D (tyL g) (wM g a M) [.ref (a 0), .int x1]) (WrQ D (wM g a M') (inA a 18) (.int r)) 0 0 (inA a 18) := by
  unfold f_X12_pool at hf
  refine met_inW (A := (inA a 18)) (by decide) (Nat.le_of_ble_eq_true rfl) ?_
  intro p e s m args below meth c ls H locs C hP hS hl
  have C : Cx p s m args meth c cX12_pool 2 (some .int) RX12 D (tyL g) := C
  obtain ⟨hx, hb, hr, hml, hown, ht, hlocks, hK, hN⟩ := id C
  have hl : lv_has ls 2 [(0, .ref (a 0)), (1, .int x1)] := hl
  refine lv_iload_n hx hb dX12_pool_0 rfl (lv_at hl 1 rfl) ?_
  obtain ⟨r1, e_1, hf⟩ := bns hf
  refine kR (rS (rest := []) C (c_X12_isMonth l D (tyL g) (wM g a M) x1 r1 e_1) ok_X12_isMonth wd_858 hP ⟨rfl, rfl, Nat.le_of_ble_eq_true rfl, Nat.le_of_ble_eq_true rfl⟩ rfl hl.1 rfl (Nat.le_of_ble_eq_true rfl) dX12_pool_1 ⟨Nat.le_of_ble_eq_true rfl, Nat.le_of_ble_eq_true rfl⟩) ?_
  refine lv_if_ne (tgt := 9) hx hb dX12_pool_4 (by decide) (fun c_2 => ?_) (fun c_2 => ?_)
  · have hf := ifn c_2 hf
    refine lv_aload_n hx hb dX12_pool_9 rfl (lv_at hl 0 rfl) ?_
    obtain ⟨r3, e_3, hf⟩ := bns hf
    refine kR (rV (rest := []) C (c_X12_all l D g a M r3 e_3) ok_X12_all wd_842 hP 0 (aM_0 g a M) rfl ⟨rfl, rfl, Nat.le_of_ble_eq_true rfl, Nat.le_of_ble_eq_true rfl⟩ rfl hl.1 rfl (Nat.le_of_ble_eq_true rfl) dX12_pool_10 ⟨Nat.le_of_ble_eq_true rfl, Nat.le_of_ble_eq_true rfl⟩) ?_
    refine lv_if_ne (tgt := 21) hx hb dX12_pool_13 (by decide) (fun c_4 => ?_) (fun c_4 => ?_)
    · have hf := ifn c_4 hf
      refine lv_aload_n hx hb dX12_pool_21 rfl (lv_at hl 0 rfl) ?_
      refine lv_iload_n hx hb dX12_pool_22 rfl (lv_at hl 1 rfl) ?_
      obtain ⟨q5, e_5, hf⟩ := bns hf
      refine kW (rV (rest := []) C (c_X12_poolOf l D g a hJ N M x1 q5.1 q5.2 e_5) ok_X12_poolOf wd_957 hP 0 (aM_0 g a M) rfl ⟨rfl, rfl, Nat.le_of_ble_eq_true rfl, Nat.le_of_ble_eq_true rfl⟩ rfl hl.1 rfl (Nat.le_of_ble_eq_true rfl) dX12_pool_23 ⟨Nat.le_of_ble_eq_true rfl, Nat.le_of_ble_eq_true rfl⟩) hS (fun H locs hP hS => ?_)
      obtain ⟨rfl, rfl⟩ := Prod.mk.inj (Option.some.inj hf)
      exact retW C hP hS dX12_pool_26
    · have hf := ifp c_4 hf
      refine lv_bipush (v := (-3)) hx hb dX12_pool_16 (by decide) ?_
      refine lv_goto (tgt := 26) hx hb dX12_pool_18 (by decide) ?_
      obtain ⟨rfl, rfl⟩ := Prod.mk.inj (Option.some.inj hf)
      exact retW C hP hS dX12_pool_26
  · have hf := ifp c_2 hf
    refine lv_iconst (v := (-1)) hx hb dX12_pool_7 (by decide) ?_
    obtain ⟨rfl, rfl⟩ := Prod.mk.inj (Option.some.inj hf)
    exact retW C hP hS dX12_pool_8
set_option maxHeartbeats 4000000 in
set_option maxRecDepth 100000 in
theorem w_X12_drain_l52 {p : Program} {l : Launch} {e : Env} {s : State} {m : MethodId} {args : Array Value} {below : List Frame} {meth : Method} {c : Code} {D : va_G} {g : Nat → ClassId} {a : Nat → Nat} (C : Cx p s m args meth c cX12_drain 8 (some .int) RX12 D (tyL g)) (hJ : Inj a 18) (N : Nat) (x1 : Int32) (x2 : Int32) (x3 : Int32) (r : Int32) (M' : Mem) :
    ∀ (n : Nat) (M : Mem) (x4 : Int32) (x5 : Int32) (x6 : Int32), ∀ (H : Heap) (locs : List Loc), va_P D clL (wM g a M) H → va_S (inA a 18) s.heap H locs → ∀ (ls : Array Slot), lv_has ls 8 [(0, .ref (a 0)), (1, .int x1), (2, .int x2), (3, .int x3), (4, .int x4), (5, .int x5), (6, .int x6)] → f_X12_drain_l52 N x1 x2 x3 n M x4 x5 x6 = some (r, M') → W p l e (rmv 4 95) s m args below meth c H locs 0 0 (MQ below (WrQ D (wM g a M') (inA a 18) (.int r)) args s 0 0 (inA a 18)) (F0 m 52 ls []) := by
  obtain ⟨hx, hb, hr, hml, hown, ht, hlocks, hK, hN⟩ := id C
  intro n
  induction n with
  | zero =>
    intro M x4 x5 x6 H locs hP hS ls hl hf
    exact nos hf
  | succ n ih =>
    intro M x4 x5 x6 H locs hP hS ls hl hf
    rw [f_X12_drain_l52] at hf
    refine lv_iload hx hb dX12_drain_52 (lv_at hl 6 rfl) ?_
    refine lv_aload_n hx hb dX12_drain_54 rfl (lv_at hl 0 rfl) ?_
    obtain ⟨r9, e_9, hf⟩ := bns hf
    refine kR (rV (rest := [.int x6]) C (c_X12_all l D g a M r9 e_9) ok_X12_all wd_842 hP 0 (aM_0 g a M) rfl ⟨rfl, rfl, Nat.le_of_ble_eq_true rfl, Nat.le_of_ble_eq_true rfl⟩ rfl hl.1 rfl (Nat.le_of_ble_eq_true rfl) dX12_drain_55 ⟨Nat.le_of_ble_eq_true rfl, Nat.le_of_ble_eq_true rfl⟩) ?_
    refine lv_icmp_ge (tgt := 118) hx hb dX12_drain_58 (by decide) (fun c_10 => ?_) (fun c_10 => ?_)
    · have hf := ifp c_10 hf
      refine lv_iload_n hx hb dX12_drain_118 rfl (lv_at hl 3 rfl) ?_
      refine lv_if_ne (tgt := 127) hx hb dX12_drain_119 (by decide) (fun c_11 => ?_) (fun c_11 => ?_)
      · have hf := ifn c_11 hf
        refine lv_iload hx hb dX12_drain_127 (lv_at hl 5 rfl) ?_
        obtain ⟨rfl, rfl⟩ := Prod.mk.inj (Option.some.inj hf)
        exact retW C hP hS dX12_drain_129
      · have hf := ifp c_11 hf
        refine lv_iload hx hb dX12_drain_122 (lv_at hl 4 rfl) ?_
        refine lv_goto (tgt := 129) hx hb dX12_drain_124 (by decide) ?_
        obtain ⟨rfl, rfl⟩ := Prod.mk.inj (Option.some.inj hf)
        exact retW C hP hS dX12_drain_129
    · have hf := ifn c_10 hf
      refine lv_aload_n hx hb dX12_drain_61 rfl (lv_at hl 0 rfl) ?_
      refine fg_X12_25 C hP dX12_drain_62 ?_
      refine lv_iload hx hb dX12_drain_65 (lv_at hl 6 rfl) ?_
      refine lv_dup2_11 hx hb dX12_drain_67 rfl rfl ?_
      obtain ⟨h_12, hf⟩ := ifs hf
      refine va_iald hx hb hK hP 6 0 (aM_6 g a M) rfl h_12 dX12_drain_68 ?_
      refine lv_iload_n hx hb dX12_drain_69 rfl (lv_at hl 2 rfl) ?_
      refine lv_iadd hx hb dX12_drain_70 ?_
      refine ast (wM g a) C hP (wM_D hJ) hS 6 0 (aM_6 g a M) rfl (sM_6 g a M) h_12 dX12_drain_71 (fun H locs hP hS => ?_)
      obtain ⟨M13, eM13, hf⟩ := nms hf
      have hP : va_P D clL (wM g a M13) H := by rw [eM13]; exact hP
      refine lv_aload_n hx hb dX12_drain_72 rfl (lv_at hl 0 rfl) ?_
      refine lv_iload_n hx hb dX12_drain_73 rfl (lv_at hl 1 rfl) ?_
      obtain ⟨q14, e_14, hf⟩ := bns hf
      refine kW (rV (rest := []) C (c_X12_poolOf l D g a hJ N M13 x1 q14.1 q14.2 e_14) ok_X12_poolOf wd_957 hP 0 (aM_0 g a M13) rfl ⟨rfl, rfl, Nat.le_of_ble_eq_true rfl, Nat.le_of_ble_eq_true rfl⟩ rfl hl.1 rfl (Nat.le_of_ble_eq_true rfl) dX12_drain_74 ⟨Nat.le_of_ble_eq_true rfl, Nat.le_of_ble_eq_true rfl⟩) hS (fun H locs hP hS => ?_)
      refine lv_istore (lv' := [(7, .int q14.1), (0, .ref (a 0)), (1, .int x1), (2, .int x2), (3, .int x3), (4, .int x4), (5, .int x5), (6, .int x6)]) hx hb dX12_drain_77 hl (by decide) rfl (fun ls hl => ?_)
      refine lv_aload_n hx hb dX12_drain_79 rfl (lv_at hl 1 rfl) ?_
      refine fg_X12_25 C hP dX12_drain_80 ?_
      refine lv_iload hx hb dX12_drain_83 (lv_at hl 7 rfl) ?_
      refine lv_dup2_11 hx hb dX12_drain_85 rfl rfl ?_
      refine va_iald hx hb hK hP 6 0 (aM_6 g a q14.2) rfl h_12 dX12_drain_86 ?_
      refine lv_iload_n hx hb dX12_drain_87 rfl (lv_at hl 3 rfl) ?_
      refine lv_isub hx hb dX12_drain_88 ?_
      refine ast (wM g a) C hP (wM_D hJ) hS 6 0 (aM_6 g a q14.2) rfl (sM_6 g a q14.2) h_12 dX12_drain_89 (fun H locs hP hS => ?_)
      obtain ⟨M15, eM15, hf⟩ := nms hf
      have hP : va_P D clL (wM g a M15) H := by rw [eM15]; exact hP
      refine lv_iload hx hb dX12_drain_90 (lv_at hl 5 rfl) ?_
      refine lv_bipush (v := (-9)) hx hb dX12_drain_92 (by decide) ?_
      refine lv_icmp_eq (tgt := 104) hx hb dX12_drain_94 (by decide) (fun c_16 => ?_) (fun c_16 => ?_)
      · have hf := ifp c_16 hf
        refine lv_iload hx hb dX12_drain_104 (lv_at hl 7 rfl) ?_
        refine lv_istore (lv' := [(4, .int x6), (7, .int q14.1), (0, .ref (a 0)), (1, .int x1), (2, .int x2), (3, .int x3), (5, .int x5), (6, .int x6)]) hx hb dX12_drain_106 hl (by decide) rfl (fun ls hl => ?_)
        refine lv_iload hx hb dX12_drain_108 (lv_at hl 1 rfl) ?_
        refine lv_istore (lv' := [(5, .int q14.1), (4, .int x6), (7, .int q14.1), (0, .ref (a 0)), (1, .int x1), (2, .int x2), (3, .int x3), (6, .int x6)]) hx hb dX12_drain_110 hl (by decide) rfl (fun ls hl => ?_)
        refine lv_iinc (v := (x6 + 1)) (lv' := [(6, .int (x6 + 1)), (5, .int q14.1), (4, .int x6), (7, .int q14.1), (0, .ref (a 0)), (1, .int x1), (2, .int x2), (3, .int x3)]) hx hb dX12_drain_112 hl (k := 7) rfl rfl (by decide) rfl (fun ls hl => ?_)
        refine lv_goto (tgt := 52) hx hb dX12_drain_115 (by decide) ?_
        exact ih M15 x6 q14.1 (x6 + 1) H locs hP hS ls (lv_sub hl [4, 5, 6, 7, 2, 1, 0] rfl) hf
      · have hf := ifn c_16 hf
        refine lv_iload hx hb dX12_drain_97 (lv_at hl 0 rfl) ?_
        refine lv_iload hx hb dX12_drain_99 (lv_at hl 6 rfl) ?_
        refine lv_icmp_ge (tgt := 112) hx hb dX12_drain_101 (by decide) (fun c_17 => ?_) (fun c_17 => ?_)
        · have hf := ifp c_17 hf
          refine lv_iinc (v := (x6 + 1)) (lv' := [(6, .int (x6 + 1)), (7, .int q14.1), (0, .ref (a 0)), (1, .int x1), (2, .int x2), (3, .int x3), (4, .int x4), (5, .int x5)]) hx hb dX12_drain_112 hl (k := 7) rfl rfl (by decide) rfl (fun ls hl => ?_)
          refine lv_goto (tgt := 52) hx hb dX12_drain_115 (by decide) ?_
          exact ih M15 x4 x5 (x6 + 1) H locs hP hS ls (lv_sub hl [2, 3, 4, 5, 6, 7, 0] rfl) hf
        · have hf := ifn c_17 hf
          refine lv_iload hx hb dX12_drain_104 (lv_at hl 7 rfl) ?_
          refine lv_istore (lv' := [(4, .int x6), (7, .int q14.1), (0, .ref (a 0)), (1, .int x1), (2, .int x2), (3, .int x3), (5, .int x5), (6, .int x6)]) hx hb dX12_drain_106 hl (by decide) rfl (fun ls hl => ?_)
          refine lv_iload hx hb dX12_drain_108 (lv_at hl 1 rfl) ?_
          refine lv_istore (lv' := [(5, .int q14.1), (4, .int x6), (7, .int q14.1), (0, .ref (a 0)), (1, .int x1), (2, .int x2), (3, .int x3), (6, .int x6)]) hx hb dX12_drain_110 hl (by decide) rfl (fun ls hl => ?_)
          refine lv_iinc (v := (x6 + 1)) (lv' := [(6, .int (x6 + 1)), (5, .int q14.1), (4, .int x6), (7, .int q14.1), (0, .ref (a 0)), (1, .int x1), (2, .int x2), (3, .int x3)]) hx hb dX12_drain_112 hl (k := 7) rfl rfl (by decide) rfl (fun ls hl => ?_)
          refine lv_goto (tgt := 52) hx hb dX12_drain_115 (by decide) ?_
          exact ih M15 x6 q14.1 (x6 + 1) H locs hP hS ls (lv_sub hl [4, 5, 6, 7, 2, 1, 0] rfl) hf
set_option maxHeartbeats 4000000 in
set_option maxRecDepth 100000 in
theorem c_X12_drain (l : Launch) (D : va_G) (g : Nat → ClassId) (a : Nat → Nat) (hJ : Inj a 18) (N : Nat) (M : Mem) (x1 : Int32) (x2 : Int32) (x3 : Int32) (r : Int32) (M' : Mem) (hf : f_X12_drain N M x1 x2 x3 = some (r, M')) : Met l yX12_drain (cW yX12_drain cX12_drain 8 (some .int)) (rmv 4 95) (Pw D (tyL g) (wM g a M) [.ref (a 0), .int x1, .int x2, .int x3]) (WrQ D (wM g a M') (inA a 18) (.int r)) 0 0 (inA a 18) := by
  unfold f_X12_drain at hf
  refine met_inW (A := (inA a 18)) (by decide) (Nat.le_of_ble_eq_true rfl) ?_
  intro p e s m args below meth c ls H locs C hP hS hl
  have C : Cx p s m args meth c cX12_drain 8 (some .int) RX12 D (tyL g) := C
  obtain ⟨hx, hb, hr, hml, hown, ht, hlocks, hK, hN⟩ := id C
  have hl : lv_has ls 8 [(0, .ref (a 0)), (1, .int x1), (2, .int x2), (3, .int x3)] := hl
  refine lv_iload_n hx hb dX12_drain_0 rfl (lv_at hl 1 rfl) ?_
  obtain ⟨r1, e_1, hf⟩ := bns hf
  refine kR (rS (rest := []) C (c_X12_isMonth l D (tyL g) (wM g a M) x1 r1 e_1) ok_X12_isMonth wd_858 hP ⟨rfl, rfl, Nat.le_of_ble_eq_true rfl, Nat.le_of_ble_eq_true rfl⟩ rfl hl.1 rfl (Nat.le_of_ble_eq_true rfl) dX12_drain_1 ⟨Nat.le_of_ble_eq_true rfl, Nat.le_of_ble_eq_true rfl⟩) ?_
  refine lv_if_ne (tgt := 9) hx hb dX12_drain_4 (by decide) (fun c_2 => ?_) (fun c_2 => ?_)
  · have hf := ifn c_2 hf
    refine lv_iload_n hx hb dX12_drain_9 rfl (lv_at hl 2 rfl) ?_
    refine lv_iconst (v := 1) hx hb dX12_drain_10 (by decide) ?_
    refine lv_bipush (v := 99) hx hb dX12_drain_11 (by decide) ?_
    obtain ⟨r3, e_3, hf⟩ := bns hf
    refine kR (rS (rest := []) C (c_X12_within l D (tyL g) (wM g a M) x2 1 99 r3 e_3) ok_X12_within wd_816 hP ⟨rfl, rfl, Nat.le_of_ble_eq_true rfl, Nat.le_of_ble_eq_true rfl⟩ rfl hl.1 rfl (Nat.le_of_ble_eq_true rfl) dX12_drain_13 ⟨Nat.le_of_ble_eq_true rfl, Nat.le_of_ble_eq_true rfl⟩) ?_
    refine lv_if_eq (tgt := 28) hx hb dX12_drain_16 (by decide) (fun c_4 => ?_) (fun c_4 => ?_)
    · have hf := ifp c_4 hf
      refine lv_bipush (v := (-2)) hx hb dX12_drain_28 (by decide) ?_
      obtain ⟨rfl, rfl⟩ := Prod.mk.inj (Option.some.inj hf)
      exact retW C hP hS dX12_drain_30
    · have hf := ifn c_4 hf
      refine lv_iload_n hx hb dX12_drain_19 rfl (lv_at hl 3 rfl) ?_
      refine lv_iconst (v := 0) hx hb dX12_drain_20 (by decide) ?_
      refine lv_iconst (v := 1) hx hb dX12_drain_21 (by decide) ?_
      obtain ⟨r5, e_5, hf⟩ := bns hf
      refine kR (rS (rest := []) C (c_X12_within l D (tyL g) (wM g a M) x3 0 1 r5 e_5) ok_X12_within wd_816 hP ⟨rfl, rfl, Nat.le_of_ble_eq_true rfl, Nat.le_of_ble_eq_true rfl⟩ rfl hl.1 rfl (Nat.le_of_ble_eq_true rfl) dX12_drain_22 ⟨Nat.le_of_ble_eq_true rfl, Nat.le_of_ble_eq_true rfl⟩) ?_
      refine lv_if_ne (tgt := 31) hx hb dX12_drain_25 (by decide) (fun c_6 => ?_) (fun c_6 => ?_)
      · have hf := ifn c_6 hf
        refine lv_aload_n hx hb dX12_drain_31 rfl (lv_at hl 0 rfl) ?_
        obtain ⟨r7, e_7, hf⟩ := bns hf
        refine kR (rV (rest := []) C (c_X12_all l D g a M r7 e_7) ok_X12_all wd_842 hP 0 (aM_0 g a M) rfl ⟨rfl, rfl, Nat.le_of_ble_eq_true rfl, Nat.le_of_ble_eq_true rfl⟩ rfl hl.1 rfl (Nat.le_of_ble_eq_true rfl) dX12_drain_32 ⟨Nat.le_of_ble_eq_true rfl, Nat.le_of_ble_eq_true rfl⟩) ?_
        refine lv_if_ne (tgt := 41) hx hb dX12_drain_35 (by decide) (fun c_8 => ?_) (fun c_8 => ?_)
        · have hf := ifn c_8 hf
          refine lv_bipush (v := (-9)) hx hb dX12_drain_41 (by decide) ?_
          refine lv_istore (lv' := [(4, .int (-9)), (0, .ref (a 0)), (1, .int x1), (2, .int x2), (3, .int x3)]) hx hb dX12_drain_43 hl (by decide) rfl (fun ls hl => ?_)
          refine lv_bipush (v := (-9)) hx hb dX12_drain_45 (by decide) ?_
          refine lv_istore (lv' := [(5, .int (-9)), (4, .int (-9)), (0, .ref (a 0)), (1, .int x1), (2, .int x2), (3, .int x3)]) hx hb dX12_drain_47 hl (by decide) rfl (fun ls hl => ?_)
          refine lv_iconst (v := 0) hx hb dX12_drain_49 (by decide) ?_
          refine lv_istore (lv' := [(6, .int 0), (5, .int (-9)), (4, .int (-9)), (0, .ref (a 0)), (1, .int x1), (2, .int x2), (3, .int x3)]) hx hb dX12_drain_50 hl (by decide) rfl (fun ls hl => ?_)
          exact w_X12_drain_l52 C hJ N x1 x2 x3 r M' N M (-9) (-9) 0 H locs hP hS ls (lv_sub hl [3, 4, 5, 6, 2, 1, 0] rfl) hf
        · have hf := ifp c_8 hf
          refine lv_bipush (v := (-3)) hx hb dX12_drain_38 (by decide) ?_
          obtain ⟨rfl, rfl⟩ := Prod.mk.inj (Option.some.inj hf)
          exact retW C hP hS dX12_drain_40
      · have hf := ifp c_6 hf
        refine lv_bipush (v := (-2)) hx hb dX12_drain_28 (by decide) ?_
        obtain ⟨rfl, rfl⟩ := Prod.mk.inj (Option.some.inj hf)
        exact retW C hP hS dX12_drain_30
  · have hf := ifp c_2 hf
    refine lv_iconst (v := (-1)) hx hb dX12_drain_7 (by decide) ?_
    obtain ⟨rfl, rfl⟩ := Prod.mk.inj (Option.some.inj hf)
    exact retW C hP hS dX12_drain_8
set_option maxHeartbeats 4000000 in
set_option maxRecDepth 100000 in
theorem w_X12_areBeside_l2 {p : Program} {l : Launch} {e : Env} {s : State} {m : MethodId} {args : Array Value} {below : List Frame} {meth : Method} {c : Code} {D : va_G} {g : Nat → ClassId} {a : Nat → Nat} (C : Cx p s m args meth c cX12_areBeside 4 (some .boolean) RX12 D (tyL g)) (N : Nat) (M : Mem) (hP : va_P D clL (wM g a M) s.heap) (x1 : Int32) (x2 : Int32) (r : Int32) :
    ∀ (n : Nat) (x3 : Int32), ∀ (ls : Array Slot), lv_has ls 4 [(0, .ref (a 0)), (1, .int x1), (2, .int x2), (3, .int x3)] → f_X12_areBeside_l2 N M x1 x2 n x3 = some r → W p l e (rmv 1 24) s m args below meth c s.heap [] 0 0 (MQ below (RdQ (.int r)) args s 0 0 nof) (F0 m 2 ls []) := by
  obtain ⟨hx, hb, hr, hml, hown, ht, hlocks, hK, hN⟩ := id C
  intro n
  induction n with
  | zero =>
    intro x3 ls hl hf
    exact nos hf
  | succ n ih =>
    intro x3 ls hl hf
    rw [f_X12_areBeside_l2] at hf
    refine lv_iload_n hx hb dX12_areBeside_2 rfl (lv_at hl 3 rfl) ?_
    refine lv_iconst (v := 4) hx hb dX12_areBeside_3 (by decide) ?_
    refine lv_icmp_ge (tgt := 25) hx hb dX12_areBeside_4 (by decide) (fun c_1 => ?_) (fun c_1 => ?_)
    · have hf := ifp c_1 hf
      refine lv_iconst (v := 0) hx hb dX12_areBeside_25 (by decide) ?_
      obtain rfl := Option.some.inj hf
      exact retRz C (Or.inl rfl) dX12_areBeside_26
    · have hf := ifn c_1 hf
      refine lv_aload_n hx hb dX12_areBeside_7 rfl (lv_at hl 0 rfl) ?_
      refine lv_iload_n hx hb dX12_areBeside_8 rfl (lv_at hl 1 rfl) ?_
      refine lv_iload_n hx hb dX12_areBeside_9 rfl (lv_at hl 3 rfl) ?_
      obtain ⟨r2, e_2, hf⟩ := bns hf
      refine kR (rV (rest := []) C (c_X12_beside l D g a M x1 x3 r2 e_2) ok_X12_beside wd_890 hP 0 (aM_0 g a M) rfl ⟨rfl, rfl, Nat.le_of_ble_eq_true rfl, Nat.le_of_ble_eq_true rfl⟩ rfl hl.1 rfl (Nat.le_of_ble_eq_true rfl) dX12_areBeside_10 ⟨Nat.le_of_ble_eq_true rfl, Nat.le_of_ble_eq_true rfl⟩) ?_
      refine lv_iload_n hx hb dX12_areBeside_13 rfl (lv_at hl 2 rfl) ?_
      refine lv_icmp_ne (tgt := 19) hx hb dX12_areBeside_14 (by decide) (fun c_3 => ?_) (fun c_3 => ?_)
      · have hf := ifn c_3 hf
        refine lv_iinc (v := (x3 + 1)) (lv' := [(3, .int (x3 + 1)), (0, .ref (a 0)), (1, .int x1), (2, .int x2)]) hx hb dX12_areBeside_19 hl (k := 3) rfl rfl (by decide) rfl (fun ls hl => ?_)
        refine lv_goto (tgt := 2) hx hb dX12_areBeside_22 (by decide) ?_
        exact ih (x3 + 1) ls (lv_sub hl [1, 2, 3, 0] rfl) hf
      · have hf := ifp c_3 hf
        refine lv_iconst (v := 1) hx hb dX12_areBeside_17 (by decide) ?_
        obtain rfl := Option.some.inj hf
        exact retRz C (Or.inr rfl) dX12_areBeside_18
set_option maxHeartbeats 4000000 in
set_option maxRecDepth 100000 in
theorem c_X12_areBeside (l : Launch) (D : va_G) (g : Nat → ClassId) (a : Nat → Nat) (N : Nat) (M : Mem) (x1 : Int32) (x2 : Int32) (r : Int32) (hf : f_X12_areBeside N M x1 x2 = some r) : Met l yX12_areBeside (cW yX12_areBeside cX12_areBeside 4 (some .boolean)) (rmv 1 24) (Pw D (tyL g) (wM g a M) [.ref (a 0), .int x1, .int x2]) (RdQ (.int r)) 0 0 nof := by
  unfold f_X12_areBeside at hf
  refine met_in (by decide) (Nat.le_of_ble_eq_true rfl) ?_
  intro p e s m args below meth c ls C hP hl
  have C : Cx p s m args meth c cX12_areBeside 4 (some .boolean) RX12 D (tyL g) := C
  obtain ⟨hx, hb, hr, hml, hown, ht, hlocks, hK, hN⟩ := id C
  have hl : lv_has ls 4 [(0, .ref (a 0)), (1, .int x1), (2, .int x2)] := hl
  refine lv_iconst (v := 0) hx hb dX12_areBeside_0 (by decide) ?_
  refine lv_istore_n (lv' := [(3, .int 0), (0, .ref (a 0)), (1, .int x1), (2, .int x2)]) hx hb dX12_areBeside_1 rfl hl (by decide) rfl (fun ls hl => ?_)
  exact w_X12_areBeside_l2 C N M hP x1 x2 r N 0 ls (lv_sub hl [1, 2, 3, 0] rfl) hf
set_option maxHeartbeats 4000000 in
set_option maxRecDepth 100000 in
theorem w_X12_statue_l47 {p : Program} {l : Launch} {e : Env} {s : State} {m : MethodId} {args : Array Value} {below : List Frame} {meth : Method} {c : Code} {D : va_G} {g : Nat → ClassId} {a : Nat → Nat} (C : Cx p s m args meth c cX12_statue 5 (some .int) RX12 D (tyL g)) (N : Nat) (M : Mem) (hP : va_P D clL (wM g a M) s.heap) (x1 : Int32) (x2 : Int32) (x3 : Int32) (r : Int32) :
    ∀ (n : Nat) (x4 : Int32), ∀ (ls : Array Slot), lv_has ls 5 [(0, .ref (a 0)), (1, .int x1), (2, .int x2), (3, .int x3), (4, .int x4)] → f_X12_statue_l47 N M x1 x2 x3 n x4 = some r → W p l e (rmv 3 72) s m args below meth c s.heap [] 0 0 (MQ below (RdQ (.int r)) args s 0 0 nof) (F0 m 47 ls []) := by
  obtain ⟨hx, hb, hr, hml, hown, ht, hlocks, hK, hN⟩ := id C
  intro n
  induction n with
  | zero =>
    intro x4 ls hl hf
    exact nos hf
  | succ n ih =>
    intro x4 ls hl hf
    rw [f_X12_statue_l47] at hf
    refine lv_iload hx hb dX12_statue_47 (lv_at hl 4 rfl) ?_
    refine lv_bipush (v := 12) hx hb dX12_statue_49 (by decide) ?_
    refine lv_icmp_ge (tgt := 77) hx hb dX12_statue_51 (by decide) (fun c_9 => ?_) (fun c_9 => ?_)
    · have hf := ifp c_9 hf
      refine lv_bipush (v := (-9)) hx hb dX12_statue_77 (by decide) ?_
      obtain rfl := Option.some.inj hf
      exact retR C dX12_statue_79
    · have hf := ifn c_9 hf
      refine lv_aload_n hx hb dX12_statue_54 rfl (lv_at hl 0 rfl) ?_
      refine lv_iload_n hx hb dX12_statue_55 rfl (lv_at hl 1 rfl) ?_
      refine lv_iload_n hx hb dX12_statue_56 rfl (lv_at hl 2 rfl) ?_
      refine lv_iload hx hb dX12_statue_57 (lv_at hl 4 rfl) ?_
      refine lv_iload hx hb dX12_statue_59 (lv_at hl 4 rfl) ?_
      refine lv_iload_n hx hb dX12_statue_61 rfl (lv_at hl 3 rfl) ?_
      obtain ⟨r10, e_10, hf⟩ := bns hf
      refine kR (rV (rest := []) C (c_X12_isStep l D g a N M x1 x2 x4 x4 x3 r10 e_10) ok_X12_isStep wd_894 hP 0 (aM_0 g a M) rfl ⟨rfl, rfl, Nat.le_of_ble_eq_true rfl, Nat.le_of_ble_eq_true rfl⟩ rfl hl.1 rfl (Nat.le_of_ble_eq_true rfl) dX12_statue_62 ⟨Nat.le_of_ble_eq_true rfl, Nat.le_of_ble_eq_true rfl⟩) ?_
      refine lv_if_ne (tgt := 71) hx hb dX12_statue_65 (by decide) (fun c_11 => ?_) (fun c_11 => ?_)
      · have hf := ifn c_11 hf
        refine lv_iinc (v := (x4 + 1)) (lv' := [(4, .int (x4 + 1)), (0, .ref (a 0)), (1, .int x1), (2, .int x2), (3, .int x3)]) hx hb dX12_statue_71 hl (k := 4) rfl rfl (by decide) rfl (fun ls hl => ?_)
        refine lv_goto (tgt := 47) hx hb dX12_statue_74 (by decide) ?_
        exact ih (x4 + 1) ls (lv_sub hl [1, 2, 3, 4, 0] rfl) hf
      · have hf := ifp c_11 hf
        refine lv_iload hx hb dX12_statue_68 (lv_at hl 4 rfl) ?_
        obtain rfl := Option.some.inj hf
        exact retR C dX12_statue_70
set_option maxHeartbeats 4000000 in
set_option maxRecDepth 100000 in
theorem c_X12_statue (l : Launch) (D : va_G) (g : Nat → ClassId) (a : Nat → Nat) (N : Nat) (M : Mem) (x1 : Int32) (x2 : Int32) (x3 : Int32) (r : Int32) (hf : f_X12_statue N M x1 x2 x3 = some r) : Met l yX12_statue (cW yX12_statue cX12_statue 5 (some .int)) (rmv 3 72) (Pw D (tyL g) (wM g a M) [.ref (a 0), .int x1, .int x2, .int x3]) (RdQ (.int r)) 0 0 nof := by
  unfold f_X12_statue at hf
  refine met_in (by decide) (Nat.le_of_ble_eq_true rfl) ?_
  intro p e s m args below meth c ls C hP hl
  have C : Cx p s m args meth c cX12_statue 5 (some .int) RX12 D (tyL g) := C
  obtain ⟨hx, hb, hr, hml, hown, ht, hlocks, hK, hN⟩ := id C
  have hl : lv_has ls 5 [(0, .ref (a 0)), (1, .int x1), (2, .int x2), (3, .int x3)] := hl
  refine lv_aload_n hx hb dX12_statue_0 rfl (lv_at hl 0 rfl) ?_
  refine lv_iload_n hx hb dX12_statue_1 rfl (lv_at hl 1 rfl) ?_
  obtain ⟨r1, e_1, hf⟩ := bns hf
  refine kR (rV (rest := []) C (c_X12_isStone l D g a M x1 r1 e_1) ok_X12_isStone wd_850 hP 0 (aM_0 g a M) rfl ⟨rfl, rfl, Nat.le_of_ble_eq_true rfl, Nat.le_of_ble_eq_true rfl⟩ rfl hl.1 rfl (Nat.le_of_ble_eq_true rfl) dX12_statue_2 ⟨Nat.le_of_ble_eq_true rfl, Nat.le_of_ble_eq_true rfl⟩) ?_
  refine lv_if_eq (tgt := 16) hx hb dX12_statue_5 (by decide) (fun c_2 => ?_) (fun c_2 => ?_)
  · have hf := ifp c_2 hf
    refine lv_iconst (v := (-1)) hx hb dX12_statue_16 (by decide) ?_
    obtain rfl := Option.some.inj hf
    exact retR C dX12_statue_17
  · have hf := ifn c_2 hf
    refine lv_aload_n hx hb dX12_statue_8 rfl (lv_at hl 0 rfl) ?_
    refine lv_iload_n hx hb dX12_statue_9 rfl (lv_at hl 2 rfl) ?_
    obtain ⟨r3, e_3, hf⟩ := bns hf
    refine kR (rV (rest := []) C (c_X12_isStone l D g a M x2 r3 e_3) ok_X12_isStone wd_850 hP 0 (aM_0 g a M) rfl ⟨rfl, rfl, Nat.le_of_ble_eq_true rfl, Nat.le_of_ble_eq_true rfl⟩ rfl hl.1 rfl (Nat.le_of_ble_eq_true rfl) dX12_statue_10 ⟨Nat.le_of_ble_eq_true rfl, Nat.le_of_ble_eq_true rfl⟩) ?_
    refine lv_if_ne (tgt := 18) hx hb dX12_statue_13 (by decide) (fun c_4 => ?_) (fun c_4 => ?_)
    · have hf := ifn c_4 hf
      refine lv_iload_n hx hb dX12_statue_18 rfl (lv_at hl 3 rfl) ?_
      refine lv_iconst (v := 0) hx hb dX12_statue_19 (by decide) ?_
      refine lv_sipush (v := 999) hx hb dX12_statue_20 (by decide) ?_
      obtain ⟨r5, e_5, hf⟩ := bns hf
      refine kR (rS (rest := []) C (c_X12_within l D (tyL g) (wM g a M) x3 0 999 r5 e_5) ok_X12_within wd_816 hP ⟨rfl, rfl, Nat.le_of_ble_eq_true rfl, Nat.le_of_ble_eq_true rfl⟩ rfl hl.1 rfl (Nat.le_of_ble_eq_true rfl) dX12_statue_23 ⟨Nat.le_of_ble_eq_true rfl, Nat.le_of_ble_eq_true rfl⟩) ?_
      refine lv_if_ne (tgt := 32) hx hb dX12_statue_26 (by decide) (fun c_6 => ?_) (fun c_6 => ?_)
      · have hf := ifn c_6 hf
        refine lv_aload_n hx hb dX12_statue_32 rfl (lv_at hl 0 rfl) ?_
        refine lv_iload_n hx hb dX12_statue_33 rfl (lv_at hl 1 rfl) ?_
        refine lv_iload_n hx hb dX12_statue_34 rfl (lv_at hl 2 rfl) ?_
        obtain ⟨r7, e_7, hf⟩ := bns hf
        refine kR (rV (rest := []) C (c_X12_areBeside l D g a N M x1 x2 r7 e_7) ok_X12_areBeside wd_969 hP 0 (aM_0 g a M) rfl ⟨rfl, rfl, Nat.le_of_ble_eq_true rfl, Nat.le_of_ble_eq_true rfl⟩ rfl hl.1 rfl (Nat.le_of_ble_eq_true rfl) dX12_statue_35 ⟨Nat.le_of_ble_eq_true rfl, Nat.le_of_ble_eq_true rfl⟩) ?_
        refine lv_if_ne (tgt := 44) hx hb dX12_statue_38 (by decide) (fun c_8 => ?_) (fun c_8 => ?_)
        · have hf := ifn c_8 hf
          refine lv_iconst (v := 0) hx hb dX12_statue_44 (by decide) ?_
          refine lv_istore (lv' := [(4, .int 0), (0, .ref (a 0)), (1, .int x1), (2, .int x2), (3, .int x3)]) hx hb dX12_statue_45 hl (by decide) rfl (fun ls hl => ?_)
          exact w_X12_statue_l47 C N M hP x1 x2 x3 r N 0 ls (lv_sub hl [1, 2, 3, 4, 0] rfl) hf
        · have hf := ifp c_8 hf
          refine lv_bipush (v := (-3)) hx hb dX12_statue_41 (by decide) ?_
          obtain rfl := Option.some.inj hf
          exact retR C dX12_statue_43
      · have hf := ifp c_6 hf
        refine lv_bipush (v := (-2)) hx hb dX12_statue_29 (by decide) ?_
        obtain rfl := Option.some.inj hf
        exact retR C dX12_statue_31
    · have hf := ifp c_4 hf
      refine lv_iconst (v := (-1)) hx hb dX12_statue_16 (by decide) ?_
      obtain rfl := Option.some.inj hf
      exact retR C dX12_statue_17
set_option maxHeartbeats 4000000 in
set_option maxRecDepth 100000 in
theorem w_X12_apartNow_l16 {p : Program} {l : Launch} {e : Env} {s : State} {m : MethodId} {args : Array Value} {below : List Frame} {meth : Method} {c : Code} {D : va_G} {g : Nat → ClassId} {a : Nat → Nat} (C : Cx p s m args meth c cX12_apartNow 4 (some .int) RX12 D (tyL g)) (N : Nat) (M : Mem) (hP : va_P D clL (wM g a M) s.heap) (r : Int32) :
    ∀ (n : Nat) (x1 : Int32) (x2 : Int32) (x3 : Int32), ∀ (ls : Array Slot), lv_has ls 4 [(0, .ref (a 0)), (1, .int x1), (2, .int x2), (3, .int x3)] → f_X12_apartNow_l16 N M n x1 x2 x3 = some r → W p l e (rmv 1 20) s m args below meth c s.heap [] 0 0 (MQ below (RdQ (.int r)) args s 0 0 nof) (F0 m 16 ls []) := by
  obtain ⟨hx, hb, hr, hml, hown, ht, hlocks, hK, hN⟩ := id C
  intro n
  induction n with
  | zero =>
    intro x1 x2 x3 ls hl hf
    exact nos hf
  | succ n ih =>
    intro x1 x2 x3 ls hl hf
    rw [f_X12_apartNow_l16] at hf
    refine lv_iload_n hx hb dX12_apartNow_16 rfl (lv_at hl 3 rfl) ?_
    refine lv_aload_n hx hb dX12_apartNow_17 rfl (lv_at hl 0 rfl) ?_
    obtain ⟨r3, e_3, hf⟩ := bns hf
    refine kR (rV (rest := [.int x3]) C (c_X12_all l D g a M r3 e_3) ok_X12_all wd_842 hP 0 (aM_0 g a M) rfl ⟨rfl, rfl, Nat.le_of_ble_eq_true rfl, Nat.le_of_ble_eq_true rfl⟩ rfl hl.1 rfl (Nat.le_of_ble_eq_true rfl) dX12_apartNow_18 ⟨Nat.le_of_ble_eq_true rfl, Nat.le_of_ble_eq_true rfl⟩) ?_
    refine lv_icmp_ge (tgt := 72) hx hb dX12_apartNow_21 (by decide) (fun c_4 => ?_) (fun c_4 => ?_)
    · have hf := ifp c_4 hf
      refine lv_iload_n hx hb dX12_apartNow_72 rfl (lv_at hl 2 rfl) ?_
      refine lv_iload_n hx hb dX12_apartNow_73 rfl (lv_at hl 1 rfl) ?_
      refine lv_isub hx hb dX12_apartNow_74 ?_
      obtain rfl := Option.some.inj hf
      exact retR C dX12_apartNow_75
    · have hf := ifn c_4 hf
      refine lv_aload_n hx hb dX12_apartNow_24 rfl (lv_at hl 0 rfl) ?_
      refine fg_X12_46 C hP dX12_apartNow_25 ?_
      refine lv_iload_n hx hb dX12_apartNow_28 rfl (lv_at hl 3 rfl) ?_
      obtain ⟨h_5, hf⟩ := ifs hf
      refine va_iald hx hb hK hP 13 0 (aM_13 g a M) rfl h_5 dX12_apartNow_29 ?_
      refine lv_iload_n hx hb dX12_apartNow_30 rfl (lv_at hl 1 rfl) ?_
      refine lv_icmp_ge (tgt := 43) hx hb dX12_apartNow_31 (by decide) (fun c_6 => ?_) (fun c_6 => ?_)
      · have hf := ifp c_6 hf
        refine lv_iload_n hx hb dX12_apartNow_43 rfl (lv_at hl 1 rfl) ?_
        refine lv_istore_n (lv' := [(1, .int x1), (0, .ref (a 0)), (2, .int x2), (3, .int x3)]) hx hb dX12_apartNow_44 rfl hl (by decide) rfl (fun ls hl => ?_)
        refine lv_aload_n hx hb dX12_apartNow_45 rfl (lv_at hl 1 rfl) ?_
        refine fg_X12_46 C hP dX12_apartNow_46 ?_
        refine lv_iload_n hx hb dX12_apartNow_49 rfl (lv_at hl 3 rfl) ?_
        refine va_iald hx hb hK hP 13 0 (aM_13 g a M) rfl h_5 dX12_apartNow_50 ?_
        refine lv_iload_n hx hb dX12_apartNow_51 rfl (lv_at hl 2 rfl) ?_
        refine lv_icmp_le (tgt := 64) hx hb dX12_apartNow_52 (by decide) (fun c_7 => ?_) (fun c_7 => ?_)
        · have hf := ifp c_7 hf
          refine lv_iload_n hx hb dX12_apartNow_64 rfl (lv_at hl 2 rfl) ?_
          refine lv_istore_n (lv' := [(2, .int x2), (1, .int x1), (0, .ref (a 0)), (3, .int x3)]) hx hb dX12_apartNow_65 rfl hl (by decide) rfl (fun ls hl => ?_)
          refine lv_iinc (v := (x3 + 1)) (lv' := [(3, .int (x3 + 1)), (2, .int x2), (1, .int x1), (0, .ref (a 0))]) hx hb dX12_apartNow_66 hl (k := 3) rfl rfl (by decide) rfl (fun ls hl => ?_)
          refine lv_goto (tgt := 16) hx hb dX12_apartNow_69 (by decide) ?_
          exact ih x1 x2 (x3 + 1) ls (lv_sub hl [3, 2, 1, 0] rfl) hf
        · have hf := ifn c_7 hf
          refine lv_aload_n hx hb dX12_apartNow_55 rfl (lv_at hl 1 rfl) ?_
          refine fg_X12_46 C hP dX12_apartNow_56 ?_
          refine lv_iload_n hx hb dX12_apartNow_59 rfl (lv_at hl 3 rfl) ?_
          refine va_iald hx hb hK hP 13 0 (aM_13 g a M) rfl h_5 dX12_apartNow_60 ?_
          refine lv_goto (tgt := 65) hx hb dX12_apartNow_61 (by decide) ?_
          refine lv_topi (fun z8 ez8 => ?_)
          have hf := nmr ez8 hf
          refine lv_istore_n (lv' := [(2, .int z8), (1, .int x1), (0, .ref (a 0)), (3, .int x3)]) hx hb dX12_apartNow_65 rfl hl (by decide) rfl (fun ls hl => ?_)
          refine lv_iinc (v := (x3 + 1)) (lv' := [(3, .int (x3 + 1)), (2, .int z8), (1, .int x1), (0, .ref (a 0))]) hx hb dX12_apartNow_66 hl (k := 3) rfl rfl (by decide) rfl (fun ls hl => ?_)
          refine lv_goto (tgt := 16) hx hb dX12_apartNow_69 (by decide) ?_
          exact ih x1 z8 (x3 + 1) ls (lv_sub hl [3, 2, 1, 0] rfl) hf
      · have hf := ifn c_6 hf
        refine lv_aload_n hx hb dX12_apartNow_34 rfl (lv_at hl 0 rfl) ?_
        refine fg_X12_46 C hP dX12_apartNow_35 ?_
        refine lv_iload_n hx hb dX12_apartNow_38 rfl (lv_at hl 3 rfl) ?_
        refine va_iald hx hb hK hP 13 0 (aM_13 g a M) rfl h_5 dX12_apartNow_39 ?_
        refine lv_goto (tgt := 44) hx hb dX12_apartNow_40 (by decide) ?_
        refine lv_topi (fun z9 ez9 => ?_)
        have hf := nmr ez9 hf
        refine lv_istore_n (lv' := [(1, .int z9), (0, .ref (a 0)), (2, .int x2), (3, .int x3)]) hx hb dX12_apartNow_44 rfl hl (by decide) rfl (fun ls hl => ?_)
        refine lv_aload_n hx hb dX12_apartNow_45 rfl (lv_at hl 1 rfl) ?_
        refine fg_X12_46 C hP dX12_apartNow_46 ?_
        refine lv_iload_n hx hb dX12_apartNow_49 rfl (lv_at hl 3 rfl) ?_
        refine va_iald hx hb hK hP 13 0 (aM_13 g a M) rfl h_5 dX12_apartNow_50 ?_
        refine lv_iload_n hx hb dX12_apartNow_51 rfl (lv_at hl 2 rfl) ?_
        refine lv_icmp_le (tgt := 64) hx hb dX12_apartNow_52 (by decide) (fun c_10 => ?_) (fun c_10 => ?_)
        · have hf := ifp c_10 hf
          refine lv_iload_n hx hb dX12_apartNow_64 rfl (lv_at hl 2 rfl) ?_
          refine lv_istore_n (lv' := [(2, .int x2), (1, .int z9), (0, .ref (a 0)), (3, .int x3)]) hx hb dX12_apartNow_65 rfl hl (by decide) rfl (fun ls hl => ?_)
          refine lv_iinc (v := (x3 + 1)) (lv' := [(3, .int (x3 + 1)), (2, .int x2), (1, .int z9), (0, .ref (a 0))]) hx hb dX12_apartNow_66 hl (k := 3) rfl rfl (by decide) rfl (fun ls hl => ?_)
          refine lv_goto (tgt := 16) hx hb dX12_apartNow_69 (by decide) ?_
          exact ih z9 x2 (x3 + 1) ls (lv_sub hl [3, 2, 1, 0] rfl) hf
        · have hf := ifn c_10 hf
          refine lv_aload_n hx hb dX12_apartNow_55 rfl (lv_at hl 1 rfl) ?_
          refine fg_X12_46 C hP dX12_apartNow_56 ?_
          refine lv_iload_n hx hb dX12_apartNow_59 rfl (lv_at hl 3 rfl) ?_
          refine va_iald hx hb hK hP 13 0 (aM_13 g a M) rfl h_5 dX12_apartNow_60 ?_
          refine lv_goto (tgt := 65) hx hb dX12_apartNow_61 (by decide) ?_
          refine lv_topi (fun z11 ez11 => ?_)
          have hf := nmr ez11 hf
          refine lv_istore_n (lv' := [(2, .int z11), (1, .int z9), (0, .ref (a 0)), (3, .int x3)]) hx hb dX12_apartNow_65 rfl hl (by decide) rfl (fun ls hl => ?_)
          refine lv_iinc (v := (x3 + 1)) (lv' := [(3, .int (x3 + 1)), (2, .int z11), (1, .int z9), (0, .ref (a 0))]) hx hb dX12_apartNow_66 hl (k := 3) rfl rfl (by decide) rfl (fun ls hl => ?_)
          refine lv_goto (tgt := 16) hx hb dX12_apartNow_69 (by decide) ?_
          exact ih z9 z11 (x3 + 1) ls (lv_sub hl [3, 2, 1, 0] rfl) hf
set_option maxHeartbeats 4000000 in
set_option maxRecDepth 100000 in
theorem c_X12_apartNow (l : Launch) (D : va_G) (g : Nat → ClassId) (a : Nat → Nat) (N : Nat) (M : Mem) (r : Int32) (hf : f_X12_apartNow N M = some r) : Met l yX12_apartNow (cW yX12_apartNow cX12_apartNow 4 (some .int)) (rmv 1 20) (Pw D (tyL g) (wM g a M) [.ref (a 0)]) (RdQ (.int r)) 0 0 nof := by
  unfold f_X12_apartNow at hf
  refine met_in (by decide) (Nat.le_of_ble_eq_true rfl) ?_
  intro p e s m args below meth c ls C hP hl
  have C : Cx p s m args meth c cX12_apartNow 4 (some .int) RX12 D (tyL g) := C
  obtain ⟨hx, hb, hr, hml, hown, ht, hlocks, hK, hN⟩ := id C
  have hl : lv_has ls 4 [(0, .ref (a 0))] := hl
  refine lv_aload_n hx hb dX12_apartNow_0 rfl (lv_at hl 0 rfl) ?_
  refine fg_X12_46 C hP dX12_apartNow_1 ?_
  refine lv_iconst (v := 0) hx hb dX12_apartNow_4 (by decide) ?_
  refine va_iald hx hb hK hP 13 0 (aM_13 g a M) rfl (show ¬ ((0 : Int32) < 0 ∨ 30 ≤ (0 : Int32).toNatClampNeg) by decide) dX12_apartNow_5 ?_
  refine lv_topi (fun z1 ez1 => ?_)
  have hf := nmr ez1 hf
  refine lv_istore_n (lv' := [(1, .int z1), (0, .ref (a 0))]) hx hb dX12_apartNow_6 rfl hl (by decide) rfl (fun ls hl => ?_)
  refine lv_aload_n hx hb dX12_apartNow_7 rfl (lv_at hl 1 rfl) ?_
  refine fg_X12_46 C hP dX12_apartNow_8 ?_
  refine lv_iconst (v := 0) hx hb dX12_apartNow_11 (by decide) ?_
  refine va_iald hx hb hK hP 13 0 (aM_13 g a M) rfl (show ¬ ((0 : Int32) < 0 ∨ 30 ≤ (0 : Int32).toNatClampNeg) by decide) dX12_apartNow_12 ?_
  refine lv_topi (fun z2 ez2 => ?_)
  have hf := nmr ez2 hf
  refine lv_istore_n (lv' := [(2, .int z2), (1, .int z1), (0, .ref (a 0))]) hx hb dX12_apartNow_13 rfl hl (by decide) rfl (fun ls hl => ?_)
  refine lv_iconst (v := 1) hx hb dX12_apartNow_14 (by decide) ?_
  refine lv_istore_n (lv' := [(3, .int 1), (2, .int z2), (1, .int z1), (0, .ref (a 0))]) hx hb dX12_apartNow_15 rfl hl (by decide) rfl (fun ls hl => ?_)
  exact w_X12_apartNow_l16 C N M hP r N z1 z2 1 ls (lv_sub hl [3, 2, 1, 0] rfl) hf
set_option maxHeartbeats 4000000 in
set_option maxRecDepth 100000 in
theorem w_X12_goNight_l125 {p : Program} {l : Launch} {e : Env} {s : State} {m : MethodId} {args : Array Value} {below : List Frame} {meth : Method} {c : Code} {D : va_G} {g : Nat → ClassId} {a : Nat → Nat} (C : Cx p s m args meth c cX12_goNight 6 none RX12 D (tyL g)) (hJ : Inj a 18) (N : Nat) (M' : Mem) :
    ∀ (n : Nat) (M : Mem) (x2 : Int32), ∀ (H : Heap) (locs : List Loc), va_P D clL (wM g a M) H → va_S (inA a 18) s.heap H locs → ∀ (ls : Array Slot), lv_has ls 6 [(0, .ref (a 0)), (2, .int x2)] → f_X12_goNight_l125 N n M x2 = some M' → W p l e (rmv 1 20) s m args below meth c H locs 0 0 (MQ below (WvQ D (wM g a M') (inA a 18)) args s 0 0 (inA a 18)) (F0 m 125 ls []) := by
  obtain ⟨hx, hb, hr, hml, hown, ht, hlocks, hK, hN⟩ := id C
  intro n
  induction n with
  | zero =>
    intro M x2 H locs hP hS ls hl hf
    exact nos hf
  | succ n ih =>
    intro M x2 H locs hP hS ls hl hf
    rw [f_X12_goNight_l125] at hf
    refine lv_iload_n hx hb dX12_goNight_125 rfl (lv_at hl 1 rfl) ?_
    refine lv_aload_n hx hb dX12_goNight_126 rfl (lv_at hl 0 rfl) ?_
    obtain ⟨r4, e_4, hf⟩ := bns hf
    refine kR (rV (rest := [.int x2]) C (c_X12_all l D g a M r4 e_4) ok_X12_all wd_842 hP 0 (aM_0 g a M) rfl ⟨rfl, rfl, Nat.le_of_ble_eq_true rfl, Nat.le_of_ble_eq_true rfl⟩ rfl hl.1 rfl (Nat.le_of_ble_eq_true rfl) dX12_goNight_127 ⟨Nat.le_of_ble_eq_true rfl, Nat.le_of_ble_eq_true rfl⟩) ?_
    refine lv_icmp_ge (tgt := 162) hx hb dX12_goNight_130 (by decide) (fun c_5 => ?_) (fun c_5 => ?_)
    · have hf := ifp c_5 hf
      obtain rfl := Option.some.inj hf
      exact retWv C hP hS dX12_goNight_162
    · have hf := ifn c_5 hf
      refine lv_aload_n hx hb dX12_goNight_133 rfl (lv_at hl 0 rfl) ?_
      refine fg_X12_46 C hP dX12_goNight_134 ?_
      refine lv_iload_n hx hb dX12_goNight_137 rfl (lv_at hl 1 rfl) ?_
      refine lv_dup2_11 hx hb dX12_goNight_138 rfl rfl ?_
      obtain ⟨h_6, hf⟩ := ifs hf
      refine va_iald hx hb hK hP 13 0 (aM_13 g a M) rfl h_6 dX12_goNight_139 ?_
      refine lv_aload_n hx hb dX12_goNight_140 rfl (lv_at hl 0 rfl) ?_
      refine fg_X12_49 C hP dX12_goNight_141 ?_
      refine lv_iload_n hx hb dX12_goNight_144 rfl (lv_at hl 1 rfl) ?_
      refine va_zald hx hb hK hP 14 1 (aM_14 g a M) rfl h_6 dX12_goNight_145 ?_
      refine lv_if_eq (tgt := 153) hx hb dX12_goNight_146 (by decide) (fun c_7 => ?_) (fun c_7 => ?_)
      · have hf := ifp c_7 hf
        refine lv_iconst (v := 0) hx hb dX12_goNight_153 (by decide) ?_
        refine lv_iadd hx hb dX12_goNight_154 ?_
        refine ast (wM g a) C hP (wM_D hJ) hS 13 0 (aM_13 g a M) rfl (sM_13 g a M) h_6 dX12_goNight_155 (fun H locs hP hS => ?_)
        obtain ⟨M8, eM8, hf⟩ := nms hf
        have hP : va_P D clL (wM g a M8) H := by rw [eM8]; exact hP
        refine lv_iinc (v := (x2 + 1)) (lv' := [(2, .int (x2 + 1)), (0, .ref (a 0))]) hx hb dX12_goNight_156 hl (k := 1) rfl rfl (by decide) rfl (fun ls hl => ?_)
        refine lv_goto (tgt := 125) hx hb dX12_goNight_159 (by decide) ?_
        exact ih M8 (x2 + 1) H locs hP hS ls (lv_sub hl [1, 0] rfl) hf
      · have hf := ifn c_7 hf
        refine lv_iconst (v := 1) hx hb dX12_goNight_149 (by decide) ?_
        refine lv_goto (tgt := 154) hx hb dX12_goNight_150 (by decide) ?_
        refine lv_iadd hx hb dX12_goNight_154 ?_
        refine ast (wM g a) C hP (wM_D hJ) hS 13 0 (aM_13 g a M) rfl (sM_13 g a M) h_6 dX12_goNight_155 (fun H locs hP hS => ?_)
        obtain ⟨M9, eM9, hf⟩ := nms hf
        have hP : va_P D clL (wM g a M9) H := by rw [eM9]; exact hP
        refine lv_iinc (v := (x2 + 1)) (lv' := [(2, .int (x2 + 1)), (0, .ref (a 0))]) hx hb dX12_goNight_156 hl (k := 1) rfl rfl (by decide) rfl (fun ls hl => ?_)
        refine lv_goto (tgt := 125) hx hb dX12_goNight_159 (by decide) ?_
        exact ih M9 (x2 + 1) H locs hP hS ls (lv_sub hl [1, 0] rfl) hf
set_option maxHeartbeats 4000000 in
set_option maxRecDepth 100000 in
theorem w_X12_goNight_l44 {p : Program} {l : Launch} {e : Env} {s : State} {m : MethodId} {args : Array Value} {below : List Frame} {meth : Method} {c : Code} {D : va_G} {g : Nat → ClassId} {a : Nat → Nat} (C : Cx p s m args meth c cX12_goNight 6 none RX12 D (tyL g)) (hJ : Inj a 18) (N : Nat) (M : Mem) (H : Heap) (locs : List Loc) (hP : va_P D clL (wM g a M) H) (hS : va_S (inA a 18) s.heap H locs) (x1 : Int32) (x2 : Int32) (M' : Mem) (kc : Int32 → Option (Mem)) (hkc : ∀ (y3 : Int32), ∀ (ls : Array Slot), lv_has ls 6 [(0, .ref (a 0)), (1, .int x1), (2, .int x2), (3, .int y3)] → kc y3 = some M' → W p l e (rmv 1 20) s m args below meth c H locs 0 0 (MQ below (WvQ D (wM g a M') (inA a 18)) args s 0 0 (inA a 18)) (F0 m 110 ls [])) :
    ∀ (n : Nat) (x3 : Int32) (x4 : Int32), ∀ (ls : Array Slot), lv_has ls 6 [(0, .ref (a 0)), (1, .int x1), (2, .int x2), (3, .int x3), (4, .int x4)] → f_X12_goNight_l44 kc N M n x3 x4 = some M' → W p l e (rmv 1 20) s m args below meth c H locs 0 0 (MQ below (WvQ D (wM g a M') (inA a 18)) args s 0 0 (inA a 18)) (F0 m 44 ls []) := by
  obtain ⟨hx, hb, hr, hml, hown, ht, hlocks, hK, hN⟩ := id C
  intro n
  induction n with
  | zero =>
    intro x3 x4 ls hl hf
    exact nos hf
  | succ n ih =>
    intro x3 x4 ls hl hf
    rw [f_X12_goNight_l44] at hf
    refine lv_iload hx hb dX12_goNight_44 (lv_at hl 4 rfl) ?_
    refine lv_aload_n hx hb dX12_goNight_46 rfl (lv_at hl 0 rfl) ?_
    obtain ⟨r12, e_12, hf⟩ := bns hf
    refine kR (rV (rest := [.int x4]) C (c_X12_all l D g a M r12 e_12) ok_X12_all wd_842 hP 0 (aM_0 g a M) rfl ⟨rfl, rfl, Nat.le_of_ble_eq_true rfl, Nat.le_of_ble_eq_true rfl⟩ rfl hl.1 rfl (Nat.le_of_ble_eq_true rfl) dX12_goNight_47 ⟨Nat.le_of_ble_eq_true rfl, Nat.le_of_ble_eq_true rfl⟩) ?_
    refine lv_icmp_ge (tgt := 110) hx hb dX12_goNight_50 (by decide) (fun c_13 => ?_) (fun c_13 => ?_)
    · have hf := ifp c_13 hf
      exact hkc x3 ls (lv_sub hl [0, 1, 2, 3] rfl) hf
    · have hf := ifn c_13 hf
      refine lv_aload_n hx hb dX12_goNight_53 rfl (lv_at hl 0 rfl) ?_
      refine fg_X12_49 C hP dX12_goNight_54 ?_
      refine lv_iload hx hb dX12_goNight_57 (lv_at hl 4 rfl) ?_
      obtain ⟨h_14, hf⟩ := ifs hf
      refine va_zald hx hb hK hP 14 1 (aM_14 g a M) rfl h_14 dX12_goNight_59 ?_
      refine lv_if_ne (tgt := 89) hx hb dX12_goNight_60 (by decide) (fun c_15 => ?_) (fun c_15 => ?_)
      · have hf := ifn c_15 hf
        refine lv_iconst (v := 0) hx hb dX12_goNight_89 (by decide) ?_
        refine lv_istore (lv' := [(5, .int 0), (0, .ref (a 0)), (1, .int x1), (2, .int x2), (3, .int x3), (4, .int x4)]) hx hb dX12_goNight_90 hl (by decide) rfl (fun ls hl => ?_)
        refine lv_iload hx hb dX12_goNight_92 (lv_at hl 0 rfl) ?_
        refine lv_if_eq (tgt := 102) hx hb dX12_goNight_94 (by decide) (fun _ => ?_) (fun q => absurd q (by decide))
        refine lv_iload_n hx hb dX12_goNight_102 rfl (lv_at hl 4 rfl) ?_
        refine lv_istore_n (lv' := [(3, .int x3), (5, .int 0), (0, .ref (a 0)), (1, .int x1), (2, .int x2), (4, .int x4)]) hx hb dX12_goNight_103 rfl hl (by decide) rfl (fun ls hl => ?_)
        refine lv_iinc (v := (x4 + 1)) (lv' := [(4, .int (x4 + 1)), (3, .int x3), (5, .int 0), (0, .ref (a 0)), (1, .int x1), (2, .int x2)]) hx hb dX12_goNight_104 hl (k := 5) rfl rfl (by decide) rfl (fun ls hl => ?_)
        refine lv_goto (tgt := 44) hx hb dX12_goNight_107 (by decide) ?_
        exact ih x3 (x4 + 1) ls (lv_sub hl [3, 4, 5, 1, 0] rfl) hf
      · have hf := ifp c_15 hf
        refine lv_iload_n hx hb dX12_goNight_63 rfl (lv_at hl 3 rfl) ?_
        refine lv_bipush (v := (-9)) hx hb dX12_goNight_64 (by decide) ?_
        refine lv_icmp_eq (tgt := 85) hx hb dX12_goNight_66 (by decide) (fun c_16 => ?_) (fun c_16 => ?_)
        · have hf := ifp c_16 hf
          refine lv_iconst (v := 1) hx hb dX12_goNight_85 (by decide) ?_
          refine lv_goto (tgt := 90) hx hb dX12_goNight_86 (by decide) ?_
          refine lv_istore (lv' := [(5, .int 1), (0, .ref (a 0)), (1, .int x1), (2, .int x2), (3, .int x3), (4, .int x4)]) hx hb dX12_goNight_90 hl (by decide) rfl (fun ls hl => ?_)
          refine lv_iload hx hb dX12_goNight_92 (lv_at hl 0 rfl) ?_
          refine lv_if_eq (tgt := 102) hx hb dX12_goNight_94 (by decide) (fun q => absurd q (by decide)) (fun _ => ?_)
          refine lv_iload hx hb dX12_goNight_97 (lv_at hl 5 rfl) ?_
          refine lv_goto (tgt := 103) hx hb dX12_goNight_99 (by decide) ?_
          refine lv_istore_n (lv' := [(3, .int x4), (5, .int 1), (0, .ref (a 0)), (1, .int x1), (2, .int x2), (4, .int x4)]) hx hb dX12_goNight_103 rfl hl (by decide) rfl (fun ls hl => ?_)
          refine lv_iinc (v := (x4 + 1)) (lv' := [(4, .int (x4 + 1)), (3, .int x4), (5, .int 1), (0, .ref (a 0)), (1, .int x1), (2, .int x2)]) hx hb dX12_goNight_104 hl (k := 5) rfl rfl (by decide) rfl (fun ls hl => ?_)
          refine lv_goto (tgt := 44) hx hb dX12_goNight_107 (by decide) ?_
          exact ih x4 (x4 + 1) ls (lv_sub hl [3, 4, 5, 1, 0] rfl) hf
        · have hf := ifn c_16 hf
          refine lv_aload_n hx hb dX12_goNight_69 rfl (lv_at hl 0 rfl) ?_
          refine fg_X12_46 C hP dX12_goNight_70 ?_
          refine lv_iload hx hb dX12_goNight_73 (lv_at hl 4 rfl) ?_
          refine va_iald hx hb hK hP 13 0 (aM_13 g a M) rfl h_14 dX12_goNight_75 ?_
          refine lv_aload_n hx hb dX12_goNight_76 rfl (lv_at hl 0 rfl) ?_
          refine fg_X12_46 C hP dX12_goNight_77 ?_
          refine lv_iload_n hx hb dX12_goNight_80 rfl (lv_at hl 3 rfl) ?_
          obtain ⟨h_17, hf⟩ := ifs hf
          refine va_iald hx hb hK hP 13 0 (aM_13 g a M) rfl h_17 dX12_goNight_81 ?_
          refine lv_icmp_ge (tgt := 89) hx hb dX12_goNight_82 (by decide) (fun c_18 => ?_) (fun c_18 => ?_)
          · have hf := ifp c_18 hf
            refine lv_iconst (v := 0) hx hb dX12_goNight_89 (by decide) ?_
            refine lv_istore (lv' := [(5, .int 0), (0, .ref (a 0)), (1, .int x1), (2, .int x2), (3, .int x3), (4, .int x4)]) hx hb dX12_goNight_90 hl (by decide) rfl (fun ls hl => ?_)
            refine lv_iload hx hb dX12_goNight_92 (lv_at hl 0 rfl) ?_
            refine lv_if_eq (tgt := 102) hx hb dX12_goNight_94 (by decide) (fun _ => ?_) (fun q => absurd q (by decide))
            refine lv_iload_n hx hb dX12_goNight_102 rfl (lv_at hl 4 rfl) ?_
            refine lv_istore_n (lv' := [(3, .int x3), (5, .int 0), (0, .ref (a 0)), (1, .int x1), (2, .int x2), (4, .int x4)]) hx hb dX12_goNight_103 rfl hl (by decide) rfl (fun ls hl => ?_)
            refine lv_iinc (v := (x4 + 1)) (lv' := [(4, .int (x4 + 1)), (3, .int x3), (5, .int 0), (0, .ref (a 0)), (1, .int x1), (2, .int x2)]) hx hb dX12_goNight_104 hl (k := 5) rfl rfl (by decide) rfl (fun ls hl => ?_)
            refine lv_goto (tgt := 44) hx hb dX12_goNight_107 (by decide) ?_
            exact ih x3 (x4 + 1) ls (lv_sub hl [3, 4, 5, 1, 0] rfl) hf
          · have hf := ifn c_18 hf
            refine lv_iconst (v := 1) hx hb dX12_goNight_85 (by decide) ?_
            refine lv_goto (tgt := 90) hx hb dX12_goNight_86 (by decide) ?_
            refine lv_istore (lv' := [(5, .int 1), (0, .ref (a 0)), (1, .int x1), (2, .int x2), (3, .int x3), (4, .int x4)]) hx hb dX12_goNight_90 hl (by decide) rfl (fun ls hl => ?_)
            refine lv_iload hx hb dX12_goNight_92 (lv_at hl 0 rfl) ?_
            refine lv_if_eq (tgt := 102) hx hb dX12_goNight_94 (by decide) (fun q => absurd q (by decide)) (fun _ => ?_)
            refine lv_iload hx hb dX12_goNight_97 (lv_at hl 5 rfl) ?_
            refine lv_goto (tgt := 103) hx hb dX12_goNight_99 (by decide) ?_
            refine lv_istore_n (lv' := [(3, .int x4), (5, .int 1), (0, .ref (a 0)), (1, .int x1), (2, .int x2), (4, .int x4)]) hx hb dX12_goNight_103 rfl hl (by decide) rfl (fun ls hl => ?_)
            refine lv_iinc (v := (x4 + 1)) (lv' := [(4, .int (x4 + 1)), (3, .int x4), (5, .int 1), (0, .ref (a 0)), (1, .int x1), (2, .int x2)]) hx hb dX12_goNight_104 hl (k := 5) rfl rfl (by decide) rfl (fun ls hl => ?_)
            refine lv_goto (tgt := 44) hx hb dX12_goNight_107 (by decide) ?_
            exact ih x4 (x4 + 1) ls (lv_sub hl [3, 4, 5, 1, 0] rfl) hf
set_option maxHeartbeats 4000000 in
set_option maxRecDepth 100000 in
theorem w_X12_goNight_l25 {p : Program} {l : Launch} {e : Env} {s : State} {m : MethodId} {args : Array Value} {below : List Frame} {meth : Method} {c : Code} {D : va_G} {g : Nat → ClassId} {a : Nat → Nat} (C : Cx p s m args meth c cX12_goNight 6 none RX12 D (tyL g)) (hJ : Inj a 18) (N : Nat) (x1 : Int32) (M' : Mem) :
    ∀ (n : Nat) (M : Mem) (x2 : Int32), ∀ (H : Heap) (locs : List Loc), va_P D clL (wM g a M) H → va_S (inA a 18) s.heap H locs → ∀ (ls : Array Slot), lv_has ls 6 [(0, .ref (a 0)), (1, .int x1), (2, .int x2)] → f_X12_goNight_l25 N x1 n M x2 = some M' → W p l e (rmv 1 20) s m args below meth c H locs 0 0 (MQ below (WvQ D (wM g a M') (inA a 18)) args s 0 0 (inA a 18)) (F0 m 25 ls []) := by
  obtain ⟨hx, hb, hr, hml, hown, ht, hlocks, hK, hN⟩ := id C
  intro n
  induction n with
  | zero =>
    intro M x2 H locs hP hS ls hl hf
    exact nos hf
  | succ n ih =>
    intro M x2 H locs hP hS ls hl hf
    rw [f_X12_goNight_l25] at hf
    refine lv_iload_n hx hb dX12_goNight_25 rfl (lv_at hl 2 rfl) ?_
    refine lv_iload_n hx hb dX12_goNight_26 rfl (lv_at hl 1 rfl) ?_
    refine lv_icmp_ge (tgt := 123) hx hb dX12_goNight_27 (by decide) (fun c_3 => ?_) (fun c_3 => ?_)
    · have hf := ifp c_3 hf
      refine lv_iconst (v := 0) hx hb dX12_goNight_123 (by decide) ?_
      refine lv_istore_n (lv' := [(2, .int 0), (0, .ref (a 0)), (1, .int x1)]) hx hb dX12_goNight_124 rfl hl (by decide) rfl (fun ls hl => ?_)
      exact w_X12_goNight_l125 C hJ N M' N M 0 H locs hP hS ls (lv_sub hl [1, 0] rfl) hf
    · have hf := ifn c_3 hf
      refine lv_iload_n hx hb dX12_goNight_30 rfl (lv_at hl 2 rfl) ?_
      refine lv_aload_n hx hb dX12_goNight_31 rfl (lv_at hl 0 rfl) ?_
      obtain ⟨r10, e_10, hf⟩ := bns hf
      refine kR (rV (rest := [.int x2]) C (c_X12_all l D g a M r10 e_10) ok_X12_all wd_842 hP 0 (aM_0 g a M) rfl ⟨rfl, rfl, Nat.le_of_ble_eq_true rfl, Nat.le_of_ble_eq_true rfl⟩ rfl hl.1 rfl (Nat.le_of_ble_eq_true rfl) dX12_goNight_32 ⟨Nat.le_of_ble_eq_true rfl, Nat.le_of_ble_eq_true rfl⟩) ?_
      refine lv_icmp_ge (tgt := 123) hx hb dX12_goNight_35 (by decide) (fun c_11 => ?_) (fun c_11 => ?_)
      · have hf := ifp c_11 hf
        refine lv_iconst (v := 0) hx hb dX12_goNight_123 (by decide) ?_
        refine lv_istore_n (lv' := [(2, .int 0), (0, .ref (a 0)), (1, .int x1)]) hx hb dX12_goNight_124 rfl hl (by decide) rfl (fun ls hl => ?_)
        exact w_X12_goNight_l125 C hJ N M' N M 0 H locs hP hS ls (lv_sub hl [1, 0] rfl) hf
      · have hf := ifn c_11 hf
        refine lv_bipush (v := (-9)) hx hb dX12_goNight_38 (by decide) ?_
        refine lv_istore_n (lv' := [(3, .int (-9)), (0, .ref (a 0)), (1, .int x1), (2, .int x2)]) hx hb dX12_goNight_40 rfl hl (by decide) rfl (fun ls hl => ?_)
        refine lv_iconst (v := 0) hx hb dX12_goNight_41 (by decide) ?_
        refine lv_istore (lv' := [(4, .int 0), (3, .int (-9)), (0, .ref (a 0)), (1, .int x1), (2, .int x2)]) hx hb dX12_goNight_42 hl (by decide) rfl (fun ls hl => ?_)
        refine w_X12_goNight_l44 C hJ N M H locs hP hS x1 x2 M' _ (fun y3_19 ls hl hf => ?_) N (-9) 0 ls (lv_sub hl [2, 3, 4, 1, 0] rfl) hf
        refine lv_aload_n hx hb dX12_goNight_110 rfl (lv_at hl 0 rfl) ?_
        refine fg_X12_49 C hP dX12_goNight_111 ?_
        refine lv_iload_n hx hb dX12_goNight_114 rfl (lv_at hl 3 rfl) ?_
        refine lv_iconst (v := 1) hx hb dX12_goNight_115 (by decide) ?_
        obtain ⟨h_20, hf⟩ := ifs hf
        refine zst (wM g a) C hP (wM_D hJ) hS 14 1 (aM_14 g a M) rfl (sM_14 g a M) rfl h_20 dX12_goNight_116 (fun H locs hP hS => ?_)
        obtain ⟨M21, eM21, hf⟩ := nms hf
        have hP : va_P D clL (wM g a M21) H := by rw [eM21]; exact hP
        refine lv_iinc (v := (x2 + 1)) (lv' := [(2, .int (x2 + 1)), (0, .ref (a 0)), (1, .int x1), (3, .int y3_19)]) hx hb dX12_goNight_117 hl (k := 2) rfl rfl (by decide) rfl (fun ls hl => ?_)
        refine lv_goto (tgt := 25) hx hb dX12_goNight_120 (by decide) ?_
        exact ih M21 (x2 + 1) H locs hP hS ls (lv_sub hl [1, 2, 0] rfl) hf
set_option maxHeartbeats 4000000 in
set_option maxRecDepth 100000 in
theorem w_X12_goNight_l2 {p : Program} {l : Launch} {e : Env} {s : State} {m : MethodId} {args : Array Value} {below : List Frame} {meth : Method} {c : Code} {D : va_G} {g : Nat → ClassId} {a : Nat → Nat} (C : Cx p s m args meth c cX12_goNight 6 none RX12 D (tyL g)) (hJ : Inj a 18) (N : Nat) (x1 : Int32) (M' : Mem) :
    ∀ (n : Nat) (M : Mem) (x2 : Int32), ∀ (H : Heap) (locs : List Loc), va_P D clL (wM g a M) H → va_S (inA a 18) s.heap H locs → ∀ (ls : Array Slot), lv_has ls 6 [(0, .ref (a 0)), (1, .int x1), (2, .int x2)] → f_X12_goNight_l2 N x1 n M x2 = some M' → W p l e (rmv 1 20) s m args below meth c H locs 0 0 (MQ below (WvQ D (wM g a M') (inA a 18)) args s 0 0 (inA a 18)) (F0 m 2 ls []) := by
  obtain ⟨hx, hb, hr, hml, hown, ht, hlocks, hK, hN⟩ := id C
  intro n
  induction n with
  | zero =>
    intro M x2 H locs hP hS ls hl hf
    exact nos hf
  | succ n ih =>
    intro M x2 H locs hP hS ls hl hf
    rw [f_X12_goNight_l2] at hf
    refine lv_iload_n hx hb dX12_goNight_2 rfl (lv_at hl 2 rfl) ?_
    refine lv_aload_n hx hb dX12_goNight_3 rfl (lv_at hl 0 rfl) ?_
    obtain ⟨r1, e_1, hf⟩ := bns hf
    refine kR (rV (rest := [.int x2]) C (c_X12_all l D g a M r1 e_1) ok_X12_all wd_842 hP 0 (aM_0 g a M) rfl ⟨rfl, rfl, Nat.le_of_ble_eq_true rfl, Nat.le_of_ble_eq_true rfl⟩ rfl hl.1 rfl (Nat.le_of_ble_eq_true rfl) dX12_goNight_4 ⟨Nat.le_of_ble_eq_true rfl, Nat.le_of_ble_eq_true rfl⟩) ?_
    refine lv_icmp_ge (tgt := 23) hx hb dX12_goNight_7 (by decide) (fun c_2 => ?_) (fun c_2 => ?_)
    · have hf := ifp c_2 hf
      refine lv_iconst (v := 0) hx hb dX12_goNight_23 (by decide) ?_
      refine lv_istore_n (lv' := [(2, .int 0), (0, .ref (a 0)), (1, .int x1)]) hx hb dX12_goNight_24 rfl hl (by decide) rfl (fun ls hl => ?_)
      exact w_X12_goNight_l25 C hJ N x1 M' N M 0 H locs hP hS ls (lv_sub hl [1, 2, 0] rfl) hf
    · have hf := ifn c_2 hf
      refine lv_aload_n hx hb dX12_goNight_10 rfl (lv_at hl 0 rfl) ?_
      refine fg_X12_49 C hP dX12_goNight_11 ?_
      refine lv_iload_n hx hb dX12_goNight_14 rfl (lv_at hl 2 rfl) ?_
      refine lv_iconst (v := 0) hx hb dX12_goNight_15 (by decide) ?_
      obtain ⟨h_22, hf⟩ := ifs hf
      refine zst (wM g a) C hP (wM_D hJ) hS 14 1 (aM_14 g a M) rfl (sM_14 g a M) rfl h_22 dX12_goNight_16 (fun H locs hP hS => ?_)
      obtain ⟨M23, eM23, hf⟩ := nms hf
      have hP : va_P D clL (wM g a M23) H := by rw [eM23]; exact hP
      refine lv_iinc (v := (x2 + 1)) (lv' := [(2, .int (x2 + 1)), (0, .ref (a 0)), (1, .int x1)]) hx hb dX12_goNight_17 hl (k := 2) rfl rfl (by decide) rfl (fun ls hl => ?_)
      refine lv_goto (tgt := 2) hx hb dX12_goNight_20 (by decide) ?_
      exact ih M23 (x2 + 1) H locs hP hS ls (lv_sub hl [1, 2, 0] rfl) hf
set_option maxHeartbeats 4000000 in
set_option maxRecDepth 100000 in
theorem c_X12_goNight (l : Launch) (D : va_G) (g : Nat → ClassId) (a : Nat → Nat) (hJ : Inj a 18) (N : Nat) (M : Mem) (x1 : Int32) (M' : Mem) (hf : f_X12_goNight N M x1 = some M') : Met l yX12_goNight (cW yX12_goNight cX12_goNight 6 none) (rmv 1 20) (Pw D (tyL g) (wM g a M) [.ref (a 0), .int x1]) (WvQ D (wM g a M') (inA a 18)) 0 0 (inA a 18) := by
  unfold f_X12_goNight at hf
  refine met_inW (A := (inA a 18)) (by decide) (Nat.le_of_ble_eq_true rfl) ?_
  intro p e s m args below meth c ls H locs C hP hS hl
  have C : Cx p s m args meth c cX12_goNight 6 none RX12 D (tyL g) := C
  obtain ⟨hx, hb, hr, hml, hown, ht, hlocks, hK, hN⟩ := id C
  have hl : lv_has ls 6 [(0, .ref (a 0)), (1, .int x1)] := hl
  refine lv_iconst (v := 0) hx hb dX12_goNight_0 (by decide) ?_
  refine lv_istore_n (lv' := [(2, .int 0), (0, .ref (a 0)), (1, .int x1)]) hx hb dX12_goNight_1 rfl hl (by decide) rfl (fun ls hl => ?_)
  exact w_X12_goNight_l2 C hJ N x1 M' N M 0 H locs hP hS ls (lv_sub hl [1, 2, 0] rfl) hf
set_option maxHeartbeats 4000000 in
set_option maxRecDepth 100000 in
theorem w_X12_nights_l78 {p : Program} {l : Launch} {e : Env} {s : State} {m : MethodId} {args : Array Value} {below : List Frame} {meth : Method} {c : Code} {D : va_G} {g : Nat → ClassId} {a : Nat → Nat} (C : Cx p s m args meth c cX12_nights 5 (some .int) RX12 D (tyL g)) (hJ : Inj a 18) (N : Nat) (x2 : Int32) (x3 : Int32) (r : Int32) (M' : Mem) :
    ∀ (n : Nat) (M : Mem) (x4 : Int32), ∀ (H : Heap) (locs : List Loc), va_P D clL (wM g a M) H → va_S (inA a 18) s.heap H locs → ∀ (ls : Array Slot), lv_has ls 5 [(0, .ref (a 0)), (2, .int x2), (3, .int x3), (4, .int x4)] → f_X12_nights_l78 N x2 x3 n M x4 = some (r, M') → W p l e (rmv 2 46) s m args below meth c H locs 0 0 (MQ below (WrQ D (wM g a M') (inA a 18) (.int r)) args s 0 0 (inA a 18)) (F0 m 78 ls []) := by
  obtain ⟨hx, hb, hr, hml, hown, ht, hlocks, hK, hN⟩ := id C
  intro n
  induction n with
  | zero =>
    intro M x4 H locs hP hS ls hl hf
    exact nos hf
  | succ n ih =>
    intro M x4 H locs hP hS ls hl hf
    rw [f_X12_nights_l78] at hf
    refine lv_iload hx hb dX12_nights_78 (lv_at hl 3 rfl) ?_
    refine lv_sipush (v := 500) hx hb dX12_nights_80 (by decide) ?_
    refine lv_icmp_gt (tgt := 108) hx hb dX12_nights_83 (by decide) (fun c_11 => ?_) (fun c_11 => ?_)
    · have hf := ifp c_11 hf
      refine lv_bipush (v := (-9)) hx hb dX12_nights_108 (by decide) ?_
      obtain ⟨rfl, rfl⟩ := Prod.mk.inj (Option.some.inj hf)
      exact retW C hP hS dX12_nights_110
    · have hf := ifn c_11 hf
      refine lv_aload_n hx hb dX12_nights_86 rfl (lv_at hl 0 rfl) ?_
      obtain ⟨r12, e_12, hf⟩ := bns hf
      refine kR (rV (rest := []) C (c_X12_apartNow l D g a N M r12 e_12) ok_X12_apartNow wd_977 hP 0 (aM_0 g a M) rfl ⟨rfl, rfl, Nat.le_of_ble_eq_true rfl, Nat.le_of_ble_eq_true rfl⟩ rfl hl.1 rfl (Nat.le_of_ble_eq_true rfl) dX12_nights_87 ⟨Nat.le_of_ble_eq_true rfl, Nat.le_of_ble_eq_true rfl⟩) ?_
      refine lv_iload_n hx hb dX12_nights_90 rfl (lv_at hl 2 rfl) ?_
      refine lv_icmp_gt (tgt := 97) hx hb dX12_nights_91 (by decide) (fun c_13 => ?_) (fun c_13 => ?_)
      · have hf := ifp c_13 hf
        refine lv_aload_n hx hb dX12_nights_97 rfl (lv_at hl 0 rfl) ?_
        refine lv_iload_n hx hb dX12_nights_98 rfl (lv_at hl 1 rfl) ?_
        obtain ⟨M14, e_14, hf⟩ := bns hf
        refine kWv (rV (rest := []) C (c_X12_goNight l D g a hJ N M x2 M14 e_14) ok_X12_goNight wd_981 hP 0 (aM_0 g a M) rfl ⟨rfl, rfl, Nat.le_of_ble_eq_true rfl, Nat.le_of_ble_eq_true rfl⟩ rfl hl.1 rfl (Nat.le_of_ble_eq_true rfl) dX12_nights_99 ⟨Nat.le_of_ble_eq_true rfl, Nat.le_of_ble_eq_true rfl⟩) hS (fun H locs hP hS => ?_)
        refine lv_iinc (v := (x4 + 1)) (lv' := [(4, .int (x4 + 1)), (0, .ref (a 0)), (2, .int x2), (3, .int x3)]) hx hb dX12_nights_102 hl (k := 3) rfl rfl (by decide) rfl (fun ls hl => ?_)
        refine lv_goto (tgt := 78) hx hb dX12_nights_105 (by decide) ?_
        exact ih M14 (x4 + 1) H locs hP hS ls (lv_sub hl [1, 2, 3, 0] rfl) hf
      · have hf := ifn c_13 hf
        refine lv_iload hx hb dX12_nights_94 (lv_at hl 3 rfl) ?_
        obtain ⟨rfl, rfl⟩ := Prod.mk.inj (Option.some.inj hf)
        exact retW C hP hS dX12_nights_96
set_option maxHeartbeats 4000000 in
set_option maxRecDepth 100000 in
theorem w_X12_nights_l46 {p : Program} {l : Launch} {e : Env} {s : State} {m : MethodId} {args : Array Value} {below : List Frame} {meth : Method} {c : Code} {D : va_G} {g : Nat → ClassId} {a : Nat → Nat} (C : Cx p s m args meth c cX12_nights 5 (some .int) RX12 D (tyL g)) (hJ : Inj a 18) (N : Nat) (x1 : Int32) (x2 : Int32) (x3 : Int32) (r : Int32) (M' : Mem) :
    ∀ (n : Nat) (M : Mem) (x4 : Int32), ∀ (H : Heap) (locs : List Loc), va_P D clL (wM g a M) H → va_S (inA a 18) s.heap H locs → ∀ (ls : Array Slot), lv_has ls 5 [(0, .ref (a 0)), (1, .int x1), (2, .int x2), (3, .int x3), (4, .int x4)] → f_X12_nights_l46 N x1 x2 x3 n M x4 = some (r, M') → W p l e (rmv 2 46) s m args below meth c H locs 0 0 (MQ below (WrQ D (wM g a M') (inA a 18) (.int r)) args s 0 0 (inA a 18)) (F0 m 46 ls []) := by
  obtain ⟨hx, hb, hr, hml, hown, ht, hlocks, hK, hN⟩ := id C
  intro n
  induction n with
  | zero =>
    intro M x4 H locs hP hS ls hl hf
    exact nos hf
  | succ n ih =>
    intro M x4 H locs hP hS ls hl hf
    rw [f_X12_nights_l46] at hf
    refine lv_iload hx hb dX12_nights_46 (lv_at hl 4 rfl) ?_
    refine lv_aload_n hx hb dX12_nights_48 rfl (lv_at hl 0 rfl) ?_
    obtain ⟨r9, e_9, hf⟩ := bns hf
    refine kR (rV (rest := [.int x4]) C (c_X12_all l D g a M r9 e_9) ok_X12_all wd_842 hP 0 (aM_0 g a M) rfl ⟨rfl, rfl, Nat.le_of_ble_eq_true rfl, Nat.le_of_ble_eq_true rfl⟩ rfl hl.1 rfl (Nat.le_of_ble_eq_true rfl) dX12_nights_49 ⟨Nat.le_of_ble_eq_true rfl, Nat.le_of_ble_eq_true rfl⟩) ?_
    refine lv_icmp_ge (tgt := 75) hx hb dX12_nights_52 (by decide) (fun c_10 => ?_) (fun c_10 => ?_)
    · have hf := ifp c_10 hf
      refine lv_iconst (v := 0) hx hb dX12_nights_75 (by decide) ?_
      refine lv_istore (lv' := [(4, .int 0), (0, .ref (a 0)), (1, .int x1), (2, .int x2), (3, .int x3)]) hx hb dX12_nights_76 hl (by decide) rfl (fun ls hl => ?_)
      exact w_X12_nights_l78 C hJ N x2 x3 r M' N M 0 H locs hP hS ls (lv_sub hl [1, 3, 4, 0] rfl) hf
    · have hf := ifn c_10 hf
      refine lv_aload_n hx hb dX12_nights_55 rfl (lv_at hl 0 rfl) ?_
      refine fg_X12_46 C hP dX12_nights_56 ?_
      refine lv_iload hx hb dX12_nights_59 (lv_at hl 4 rfl) ?_
      refine lv_aload_n hx hb dX12_nights_61 rfl (lv_at hl 0 rfl) ?_
      refine lv_iload hx hb dX12_nights_62 (lv_at hl 4 rfl) ?_
      refine lv_iload_n hx hb dX12_nights_64 rfl (lv_at hl 1 rfl) ?_
      obtain ⟨r15, e_15, hf⟩ := bns hf
      refine kR (rV (rest := [.int x4, .ref (a 13)]) C (c_X12_heightOf l D g a M x4 x1 r15 e_15) ok_X12_heightOf wd_869 hP 0 (aM_0 g a M) rfl ⟨rfl, rfl, Nat.le_of_ble_eq_true rfl, Nat.le_of_ble_eq_true rfl⟩ rfl hl.1 rfl (Nat.le_of_ble_eq_true rfl) dX12_nights_65 ⟨Nat.le_of_ble_eq_true rfl, Nat.le_of_ble_eq_true rfl⟩) ?_
      obtain ⟨h_16, hf⟩ := ifs hf
      refine ast (wM g a) C hP (wM_D hJ) hS 13 0 (aM_13 g a M) rfl (sM_13 g a M) h_16 dX12_nights_68 (fun H locs hP hS => ?_)
      obtain ⟨M17, eM17, hf⟩ := nms hf
      have hP : va_P D clL (wM g a M17) H := by rw [eM17]; exact hP
      refine lv_iinc (v := (x4 + 1)) (lv' := [(4, .int (x4 + 1)), (0, .ref (a 0)), (1, .int x1), (2, .int x2), (3, .int x3)]) hx hb dX12_nights_69 hl (k := 4) rfl rfl (by decide) rfl (fun ls hl => ?_)
      refine lv_goto (tgt := 46) hx hb dX12_nights_72 (by decide) ?_
      exact ih M17 (x4 + 1) H locs hP hS ls (lv_sub hl [1, 2, 3, 4, 0] rfl) hf
set_option maxHeartbeats 4000000 in
set_option maxRecDepth 100000 in
theorem c_X12_nights (l : Launch) (D : va_G) (g : Nat → ClassId) (a : Nat → Nat) (hJ : Inj a 18) (N : Nat) (M : Mem) (x1 : Int32) (x2 : Int32) (x3 : Int32) (r : Int32) (M' : Mem) (hf : f_X12_nights N M x1 x2 x3 = some (r, M')) : Met l yX12_nights (cW yX12_nights cX12_nights 5 (some .int)) (rmv 2 46) (Pw D (tyL g) (wM g a M) [.ref (a 0), .int x1, .int x2, .int x3]) (WrQ D (wM g a M') (inA a 18) (.int r)) 0 0 (inA a 18) := by
  unfold f_X12_nights at hf
  refine met_inW (A := (inA a 18)) (by decide) (Nat.le_of_ble_eq_true rfl) ?_
  intro p e s m args below meth c ls H locs C hP hS hl
  have C : Cx p s m args meth c cX12_nights 5 (some .int) RX12 D (tyL g) := C
  obtain ⟨hx, hb, hr, hml, hown, ht, hlocks, hK, hN⟩ := id C
  have hl : lv_has ls 5 [(0, .ref (a 0)), (1, .int x1), (2, .int x2), (3, .int x3)] := hl
  refine lv_iload_n hx hb dX12_nights_0 rfl (lv_at hl 1 rfl) ?_
  obtain ⟨r1, e_1, hf⟩ := bns hf
  refine kR (rS (rest := []) C (c_X12_isMonth l D (tyL g) (wM g a M) x1 r1 e_1) ok_X12_isMonth wd_858 hP ⟨rfl, rfl, Nat.le_of_ble_eq_true rfl, Nat.le_of_ble_eq_true rfl⟩ rfl hl.1 rfl (Nat.le_of_ble_eq_true rfl) dX12_nights_1 ⟨Nat.le_of_ble_eq_true rfl, Nat.le_of_ble_eq_true rfl⟩) ?_
  refine lv_if_ne (tgt := 9) hx hb dX12_nights_4 (by decide) (fun c_2 => ?_) (fun c_2 => ?_)
  · have hf := ifn c_2 hf
    refine lv_iload_n hx hb dX12_nights_9 rfl (lv_at hl 2 rfl) ?_
    refine lv_iconst (v := 1) hx hb dX12_nights_10 (by decide) ?_
    refine lv_bipush (v := 9) hx hb dX12_nights_11 (by decide) ?_
    obtain ⟨r3, e_3, hf⟩ := bns hf
    refine kR (rS (rest := []) C (c_X12_within l D (tyL g) (wM g a M) x2 1 9 r3 e_3) ok_X12_within wd_816 hP ⟨rfl, rfl, Nat.le_of_ble_eq_true rfl, Nat.le_of_ble_eq_true rfl⟩ rfl hl.1 rfl (Nat.le_of_ble_eq_true rfl) dX12_nights_13 ⟨Nat.le_of_ble_eq_true rfl, Nat.le_of_ble_eq_true rfl⟩) ?_
    refine lv_if_eq (tgt := 30) hx hb dX12_nights_16 (by decide) (fun c_4 => ?_) (fun c_4 => ?_)
    · have hf := ifp c_4 hf
      refine lv_bipush (v := (-2)) hx hb dX12_nights_30 (by decide) ?_
      obtain ⟨rfl, rfl⟩ := Prod.mk.inj (Option.some.inj hf)
      exact retW C hP hS dX12_nights_32
    · have hf := ifn c_4 hf
      refine lv_iload_n hx hb dX12_nights_19 rfl (lv_at hl 3 rfl) ?_
      refine lv_iconst (v := 0) hx hb dX12_nights_20 (by decide) ?_
      refine lv_sipush (v := 999) hx hb dX12_nights_21 (by decide) ?_
      obtain ⟨r5, e_5, hf⟩ := bns hf
      refine kR (rS (rest := []) C (c_X12_within l D (tyL g) (wM g a M) x3 0 999 r5 e_5) ok_X12_within wd_816 hP ⟨rfl, rfl, Nat.le_of_ble_eq_true rfl, Nat.le_of_ble_eq_true rfl⟩ rfl hl.1 rfl (Nat.le_of_ble_eq_true rfl) dX12_nights_24 ⟨Nat.le_of_ble_eq_true rfl, Nat.le_of_ble_eq_true rfl⟩) ?_
      refine lv_if_ne (tgt := 33) hx hb dX12_nights_27 (by decide) (fun c_6 => ?_) (fun c_6 => ?_)
      · have hf := ifn c_6 hf
        refine lv_aload_n hx hb dX12_nights_33 rfl (lv_at hl 0 rfl) ?_
        obtain ⟨r7, e_7, hf⟩ := bns hf
        refine kR (rV (rest := []) C (c_X12_all l D g a M r7 e_7) ok_X12_all wd_842 hP 0 (aM_0 g a M) rfl ⟨rfl, rfl, Nat.le_of_ble_eq_true rfl, Nat.le_of_ble_eq_true rfl⟩ rfl hl.1 rfl (Nat.le_of_ble_eq_true rfl) dX12_nights_34 ⟨Nat.le_of_ble_eq_true rfl, Nat.le_of_ble_eq_true rfl⟩) ?_
        refine lv_if_ne (tgt := 43) hx hb dX12_nights_37 (by decide) (fun c_8 => ?_) (fun c_8 => ?_)
        · have hf := ifn c_8 hf
          refine lv_iconst (v := 0) hx hb dX12_nights_43 (by decide) ?_
          refine lv_istore (lv' := [(4, .int 0), (0, .ref (a 0)), (1, .int x1), (2, .int x2), (3, .int x3)]) hx hb dX12_nights_44 hl (by decide) rfl (fun ls hl => ?_)
          exact w_X12_nights_l46 C hJ N x1 x2 x3 r M' N M 0 H locs hP hS ls (lv_sub hl [1, 2, 3, 4, 0] rfl) hf
        · have hf := ifp c_8 hf
          refine lv_bipush (v := (-3)) hx hb dX12_nights_40 (by decide) ?_
          obtain ⟨rfl, rfl⟩ := Prod.mk.inj (Option.some.inj hf)
          exact retW C hP hS dX12_nights_42
      · have hf := ifp c_6 hf
        refine lv_bipush (v := (-2)) hx hb dX12_nights_30 (by decide) ?_
        obtain ⟨rfl, rfl⟩ := Prod.mk.inj (Option.some.inj hf)
        exact retW C hP hS dX12_nights_32
  · have hf := ifp c_2 hf
    refine lv_iconst (v := (-1)) hx hb dX12_nights_7 (by decide) ?_
    obtain ⟨rfl, rfl⟩ := Prod.mk.inj (Option.some.inj hf)
    exact retW C hP hS dX12_nights_8
set_option maxHeartbeats 4000000 in
set_option maxRecDepth 100000 in
theorem c_X12_reading (l : Launch) (D : va_G) (g : Nat → ClassId) (a : Nat → Nat) (hJ : Inj a 18) (M : Mem) (x1 : Int32) (x2 : Int32) (x3 : Int32) (r : Int32) (M' : Mem) (hf : f_X12_reading M x1 x2 x3 = some (r, M')) : Met l yX12_reading (cW yX12_reading cX12_reading 4 (some .int)) (rmv 2 42) (Pw D (tyL g) (wM g a M) [.ref (a 0), .int x1, .int x2, .int x3]) (WrQ D (wM g a M') (inA a 18) (.int r)) 0 0 (inA a 18) := by
  unfold f_X12_reading at hf
  refine met_inW (A := (inA a 18)) (by decide) (Nat.le_of_ble_eq_true rfl) ?_
  intro p e s m args below meth c ls H locs C hP hS hl
  have C : Cx p s m args meth c cX12_reading 4 (some .int) RX12 D (tyL g) := C
  obtain ⟨hx, hb, hr, hml, hown, ht, hlocks, hK, hN⟩ := id C
  have hl : lv_has ls 4 [(0, .ref (a 0)), (1, .int x1), (2, .int x2), (3, .int x3)] := hl
  refine lv_aload_n hx hb dX12_reading_0 rfl (lv_at hl 0 rfl) ?_
  refine lv_iload_n hx hb dX12_reading_1 rfl (lv_at hl 1 rfl) ?_
  obtain ⟨r1, e_1, hf⟩ := bns hf
  refine kR (rV (rest := []) C (c_X12_isStone l D g a M x1 r1 e_1) ok_X12_isStone wd_850 hP 0 (aM_0 g a M) rfl ⟨rfl, rfl, Nat.le_of_ble_eq_true rfl, Nat.le_of_ble_eq_true rfl⟩ rfl hl.1 rfl (Nat.le_of_ble_eq_true rfl) dX12_reading_2 ⟨Nat.le_of_ble_eq_true rfl, Nat.le_of_ble_eq_true rfl⟩) ?_
  refine lv_if_eq (tgt := 15) hx hb dX12_reading_5 (by decide) (fun c_2 => ?_) (fun c_2 => ?_)
  · have hf := ifp c_2 hf
    refine lv_iconst (v := (-1)) hx hb dX12_reading_15 (by decide) ?_
    obtain ⟨rfl, rfl⟩ := Prod.mk.inj (Option.some.inj hf)
    exact retW C hP hS dX12_reading_16
  · have hf := ifn c_2 hf
    refine lv_iload_n hx hb dX12_reading_8 rfl (lv_at hl 2 rfl) ?_
    obtain ⟨r3, e_3, hf⟩ := bns hf
    refine kR (rS (rest := []) C (c_X12_isMonth l D (tyL g) (wM g a M) x2 r3 e_3) ok_X12_isMonth wd_858 hP ⟨rfl, rfl, Nat.le_of_ble_eq_true rfl, Nat.le_of_ble_eq_true rfl⟩ rfl hl.1 rfl (Nat.le_of_ble_eq_true rfl) dX12_reading_9 ⟨Nat.le_of_ble_eq_true rfl, Nat.le_of_ble_eq_true rfl⟩) ?_
    refine lv_if_ne (tgt := 17) hx hb dX12_reading_12 (by decide) (fun c_4 => ?_) (fun c_4 => ?_)
    · have hf := ifn c_4 hf
      refine lv_iload_n hx hb dX12_reading_17 rfl (lv_at hl 3 rfl) ?_
      refine lv_iconst (v := 0) hx hb dX12_reading_18 (by decide) ?_
      refine lv_sipush (v := 999) hx hb dX12_reading_19 (by decide) ?_
      obtain ⟨r5, e_5, hf⟩ := bns hf
      refine kR (rS (rest := []) C (c_X12_within l D (tyL g) (wM g a M) x3 0 999 r5 e_5) ok_X12_within wd_816 hP ⟨rfl, rfl, Nat.le_of_ble_eq_true rfl, Nat.le_of_ble_eq_true rfl⟩ rfl hl.1 rfl (Nat.le_of_ble_eq_true rfl) dX12_reading_22 ⟨Nat.le_of_ble_eq_true rfl, Nat.le_of_ble_eq_true rfl⟩) ?_
      refine lv_if_ne (tgt := 31) hx hb dX12_reading_25 (by decide) (fun c_6 => ?_) (fun c_6 => ?_)
      · have hf := ifn c_6 hf
        refine lv_aload_n hx hb dX12_reading_31 rfl (lv_at hl 0 rfl) ?_
        refine fg_X12_109 C hP dX12_reading_32 ?_
        refine lv_bipush (v := 10) hx hb dX12_reading_35 (by decide) ?_
        refine lv_icmp_ne (tgt := 43) hx hb dX12_reading_37 (by decide) (fun c_7 => ?_) (fun c_7 => ?_)
        · have hf := ifn c_7 hf
          refine lv_aload_n hx hb dX12_reading_43 rfl (lv_at hl 0 rfl) ?_
          refine fg_X12_53 C hP dX12_reading_44 ?_
          refine lv_aload_n hx hb dX12_reading_47 rfl (lv_at hl 0 rfl) ?_
          refine fg_X12_109 C hP dX12_reading_48 ?_
          refine lv_iload_n hx hb dX12_reading_51 rfl (lv_at hl 1 rfl) ?_
          obtain ⟨h_8, hf⟩ := ifs hf
          refine ast (wM g a) C hP (wM_D hJ) hS 15 0 (aM_15 g a M) rfl (sM_15 g a M) h_8 dX12_reading_52 (fun H locs hP hS => ?_)
          obtain ⟨M9, eM9, hf⟩ := nms hf
          have hP : va_P D clL (wM g a M9) H := by rw [eM9]; exact hP
          refine lv_aload_n hx hb dX12_reading_53 rfl (lv_at hl 0 rfl) ?_
          refine fg_X12_56 C hP dX12_reading_54 ?_
          refine lv_aload_n hx hb dX12_reading_57 rfl (lv_at hl 0 rfl) ?_
          refine fg_X12_109 C hP dX12_reading_58 ?_
          refine lv_iload_n hx hb dX12_reading_61 rfl (lv_at hl 2 rfl) ?_
          obtain ⟨h_10, hf⟩ := ifs hf
          refine ast (wM g a) C hP (wM_D hJ) hS 16 0 (aM_16 g a M9) rfl (sM_16 g a M9) h_10 dX12_reading_62 (fun H locs hP hS => ?_)
          obtain ⟨M11, eM11, hf⟩ := nms hf
          have hP : va_P D clL (wM g a M11) H := by rw [eM11]; exact hP
          refine lv_aload_n hx hb dX12_reading_63 rfl (lv_at hl 0 rfl) ?_
          refine fg_X12_59 C hP dX12_reading_64 ?_
          refine lv_aload_n hx hb dX12_reading_67 rfl (lv_at hl 0 rfl) ?_
          refine fg_X12_109 C hP dX12_reading_68 ?_
          refine lv_iload_n hx hb dX12_reading_71 rfl (lv_at hl 3 rfl) ?_
          obtain ⟨h_12, hf⟩ := ifs hf
          refine ast (wM g a) C hP (wM_D hJ) hS 17 0 (aM_17 g a M11) rfl (sM_17 g a M11) h_12 dX12_reading_72 (fun H locs hP hS => ?_)
          obtain ⟨M13, eM13, hf⟩ := nms hf
          have hP : va_P D clL (wM g a M13) H := by rw [eM13]; exact hP
          refine lv_aload_n hx hb dX12_reading_73 rfl (lv_at hl 0 rfl) ?_
          refine lv_dup hx hb dX12_reading_74 rfl ?_
          refine fg_X12_109 C hP dX12_reading_75 ?_
          refine lv_iconst (v := 1) hx hb dX12_reading_78 (by decide) ?_
          refine lv_iadd hx hb dX12_reading_79 ?_
          refine fp_X12_109 C hP (wM_D hJ) hS dX12_reading_80 (fun H locs hP hS => ?_)
          obtain ⟨M14, eM14, hf⟩ := nms hf
          have hP : va_P D clL (wM g a M14) H := by rw [eM14]; exact hP
          refine lv_aload_n hx hb dX12_reading_83 rfl (lv_at hl 0 rfl) ?_
          refine fg_X12_109 C hP dX12_reading_84 ?_
          refine lv_iconst (v := 1) hx hb dX12_reading_87 (by decide) ?_
          refine lv_isub hx hb dX12_reading_88 ?_
          obtain ⟨rfl, rfl⟩ := Prod.mk.inj (Option.some.inj hf)
          exact retW C hP hS dX12_reading_89
        · have hf := ifp c_7 hf
          refine lv_bipush (v := (-4)) hx hb dX12_reading_40 (by decide) ?_
          obtain ⟨rfl, rfl⟩ := Prod.mk.inj (Option.some.inj hf)
          exact retW C hP hS dX12_reading_42
      · have hf := ifp c_6 hf
        refine lv_bipush (v := (-2)) hx hb dX12_reading_28 (by decide) ?_
        obtain ⟨rfl, rfl⟩ := Prod.mk.inj (Option.some.inj hf)
        exact retW C hP hS dX12_reading_30
    · have hf := ifp c_4 hf
      refine lv_iconst (v := (-1)) hx hb dX12_reading_15 (by decide) ?_
      obtain ⟨rfl, rfl⟩ := Prod.mk.inj (Option.some.inj hf)
      exact retW C hP hS dX12_reading_16
set_option maxHeartbeats 4000000 in
set_option maxRecDepth 100000 in
theorem c_X12_back (l : Launch) (D : va_G) (g : Nat → ClassId) (a : Nat → Nat) (hJ : Inj a 18) (M : Mem) (x1 : Int32) (r : Int32) (M' : Mem) (hf : f_X12_back M x1 = some (r, M')) : Met l yX12_back (cW yX12_back cX12_back 2 (some .int)) (rmv 1 22) (Pw D (tyL g) (wM g a M) [.ref (a 0), .int x1]) (WrQ D (wM g a M') (inA a 18) (.int r)) 0 0 (inA a 18) := by
  unfold f_X12_back at hf
  refine met_inW (A := (inA a 18)) (by decide) (Nat.le_of_ble_eq_true rfl) ?_
  intro p e s m args below meth c ls H locs C hP hS hl
  have C : Cx p s m args meth c cX12_back 2 (some .int) RX12 D (tyL g) := C
  obtain ⟨hx, hb, hr, hml, hown, ht, hlocks, hK, hN⟩ := id C
  have hl : lv_has ls 2 [(0, .ref (a 0)), (1, .int x1)] := hl
  refine lv_iload_n hx hb dX12_back_0 rfl (lv_at hl 1 rfl) ?_
  refine lv_iconst (v := 0) hx hb dX12_back_1 (by decide) ?_
  refine lv_aload_n hx hb dX12_back_2 rfl (lv_at hl 0 rfl) ?_
  refine fg_X12_109 C hP dX12_back_3 ?_
  obtain ⟨r1, e_1, hf⟩ := bns hf
  refine kR (rS (rest := []) C (c_X12_within l D (tyL g) (wM g a M) x1 0 (M 0 21) r1 e_1) ok_X12_within wd_816 hP ⟨rfl, rfl, Nat.le_of_ble_eq_true rfl, Nat.le_of_ble_eq_true rfl⟩ rfl hl.1 rfl (Nat.le_of_ble_eq_true rfl) dX12_back_6 ⟨Nat.le_of_ble_eq_true rfl, Nat.le_of_ble_eq_true rfl⟩) ?_
  refine lv_if_ne (tgt := 15) hx hb dX12_back_9 (by decide) (fun c_2 => ?_) (fun c_2 => ?_)
  · have hf := ifn c_2 hf
    refine lv_aload_n hx hb dX12_back_15 rfl (lv_at hl 0 rfl) ?_
    refine lv_dup hx hb dX12_back_16 rfl ?_
    refine fg_X12_109 C hP dX12_back_17 ?_
    refine lv_iload_n hx hb dX12_back_20 rfl (lv_at hl 1 rfl) ?_
    refine lv_isub hx hb dX12_back_21 ?_
    refine fp_X12_109 C hP (wM_D hJ) hS dX12_back_22 (fun H locs hP hS => ?_)
    obtain ⟨M3, eM3, hf⟩ := nms hf
    have hP : va_P D clL (wM g a M3) H := by rw [eM3]; exact hP
    refine lv_aload_n hx hb dX12_back_25 rfl (lv_at hl 0 rfl) ?_
    refine fg_X12_109 C hP dX12_back_26 ?_
    obtain ⟨rfl, rfl⟩ := Prod.mk.inj (Option.some.inj hf)
    exact retW C hP hS dX12_back_29
  · have hf := ifp c_2 hf
    refine lv_bipush (v := (-2)) hx hb dX12_back_12 (by decide) ?_
    obtain ⟨rfl, rfl⟩ := Prod.mk.inj (Option.some.inj hf)
    exact retW C hP hS dX12_back_14
set_option maxHeartbeats 4000000 in
set_option maxRecDepth 100000 in
theorem w_X12_isKind_l2 {p : Program} {l : Launch} {e : Env} {s : State} {m : MethodId} {args : Array Value} {below : List Frame} {meth : Method} {c : Code} {D : va_G} {g : Nat → ClassId} {a : Nat → Nat} (C : Cx p s m args meth c cX12_isKind 4 (some .boolean) RX12 D (tyL g)) (N : Nat) (M : Mem) (hP : va_P D clL (wM g a M) s.heap) (x1 : Int32) (x2 : Int32) (r : Int32) :
    ∀ (n : Nat) (x3 : Int32), ∀ (ls : Array Slot), lv_has ls 4 [(0, .ref (a 0)), (1, .int x1), (2, .int x2), (3, .int x3)] → f_X12_isKind_l2 N M x1 x2 n x3 = some r → W p l e (rmv 1 24) s m args below meth c s.heap [] 0 0 (MQ below (RdQ (.int r)) args s 0 0 nof) (F0 m 2 ls []) := by
  obtain ⟨hx, hb, hr, hml, hown, ht, hlocks, hK, hN⟩ := id C
  intro n
  induction n with
  | zero =>
    intro x3 ls hl hf
    exact nos hf
  | succ n ih =>
    intro x3 ls hl hf
    rw [f_X12_isKind_l2] at hf
    refine lv_iload_n hx hb dX12_isKind_2 rfl (lv_at hl 3 rfl) ?_
    refine lv_aload_n hx hb dX12_isKind_3 rfl (lv_at hl 0 rfl) ?_
    refine fg_X12_109 C hP dX12_isKind_4 ?_
    refine lv_icmp_ge (tgt := 49) hx hb dX12_isKind_7 (by decide) (fun c_1 => ?_) (fun c_1 => ?_)
    · have hf := ifp c_1 hf
      refine lv_iconst (v := 1) hx hb dX12_isKind_49 (by decide) ?_
      obtain rfl := Option.some.inj hf
      exact retRz C (Or.inr rfl) dX12_isKind_50
    · have hf := ifn c_1 hf
      refine lv_aload_n hx hb dX12_isKind_10 rfl (lv_at hl 0 rfl) ?_
      refine fg_X12_53 C hP dX12_isKind_11 ?_
      refine lv_iload_n hx hb dX12_isKind_14 rfl (lv_at hl 3 rfl) ?_
      obtain ⟨h_2, hf⟩ := ifs hf
      refine va_iald hx hb hK hP 15 0 (aM_15 g a M) rfl h_2 dX12_isKind_15 ?_
      refine lv_iload_n hx hb dX12_isKind_16 rfl (lv_at hl 1 rfl) ?_
      refine lv_icmp_ne (tgt := 43) hx hb dX12_isKind_17 (by decide) (fun c_3 => ?_) (fun c_3 => ?_)
      · have hf := ifn c_3 hf
        refine lv_iinc (v := (x3 + 1)) (lv' := [(3, .int (x3 + 1)), (0, .ref (a 0)), (1, .int x1), (2, .int x2)]) hx hb dX12_isKind_43 hl (k := 3) rfl rfl (by decide) rfl (fun ls hl => ?_)
        refine lv_goto (tgt := 2) hx hb dX12_isKind_46 (by decide) ?_
        exact ih (x3 + 1) ls (lv_sub hl [1, 2, 3, 0] rfl) hf
      · have hf := ifp c_3 hf
        refine lv_aload_n hx hb dX12_isKind_20 rfl (lv_at hl 0 rfl) ?_
        refine lv_iload_n hx hb dX12_isKind_21 rfl (lv_at hl 1 rfl) ?_
        refine lv_iload_n hx hb dX12_isKind_22 rfl (lv_at hl 2 rfl) ?_
        refine lv_aload_n hx hb dX12_isKind_23 rfl (lv_at hl 0 rfl) ?_
        refine fg_X12_56 C hP dX12_isKind_24 ?_
        refine lv_iload_n hx hb dX12_isKind_27 rfl (lv_at hl 3 rfl) ?_
        refine va_iald hx hb hK hP 16 0 (aM_16 g a M) rfl h_2 dX12_isKind_28 ?_
        obtain ⟨r4, e_4, hf⟩ := bns hf
        refine kR (rV (rest := []) C (c_X12_heightAs l D g a M x1 x2 (M 16 x3.toNatClampNeg) r4 e_4) ok_X12_heightAs wd_873 hP 0 (aM_0 g a M) rfl ⟨rfl, rfl, Nat.le_of_ble_eq_true rfl, Nat.le_of_ble_eq_true rfl⟩ rfl hl.1 rfl (Nat.le_of_ble_eq_true rfl) dX12_isKind_29 ⟨Nat.le_of_ble_eq_true rfl, Nat.le_of_ble_eq_true rfl⟩) ?_
        refine lv_aload_n hx hb dX12_isKind_32 rfl (lv_at hl 0 rfl) ?_
        refine fg_X12_59 C hP dX12_isKind_33 ?_
        refine lv_iload_n hx hb dX12_isKind_36 rfl (lv_at hl 3 rfl) ?_
        refine va_iald hx hb hK hP 17 0 (aM_17 g a M) rfl h_2 dX12_isKind_37 ?_
        refine lv_icmp_eq (tgt := 43) hx hb dX12_isKind_38 (by decide) (fun c_5 => ?_) (fun c_5 => ?_)
        · have hf := ifp c_5 hf
          refine lv_iinc (v := (x3 + 1)) (lv' := [(3, .int (x3 + 1)), (0, .ref (a 0)), (1, .int x1), (2, .int x2)]) hx hb dX12_isKind_43 hl (k := 3) rfl rfl (by decide) rfl (fun ls hl => ?_)
          refine lv_goto (tgt := 2) hx hb dX12_isKind_46 (by decide) ?_
          exact ih (x3 + 1) ls (lv_sub hl [1, 2, 3, 0] rfl) hf
        · have hf := ifn c_5 hf
          refine lv_iconst (v := 0) hx hb dX12_isKind_41 (by decide) ?_
          obtain rfl := Option.some.inj hf
          exact retRz C (Or.inl rfl) dX12_isKind_42
set_option maxHeartbeats 4000000 in
set_option maxRecDepth 100000 in
theorem c_X12_isKind (l : Launch) (D : va_G) (g : Nat → ClassId) (a : Nat → Nat) (N : Nat) (M : Mem) (x1 : Int32) (x2 : Int32) (r : Int32) (hf : f_X12_isKind N M x1 x2 = some r) : Met l yX12_isKind (cW yX12_isKind cX12_isKind 4 (some .boolean)) (rmv 1 24) (Pw D (tyL g) (wM g a M) [.ref (a 0), .int x1, .int x2]) (RdQ (.int r)) 0 0 nof := by
  unfold f_X12_isKind at hf
  refine met_in (by decide) (Nat.le_of_ble_eq_true rfl) ?_
  intro p e s m args below meth c ls C hP hl
  have C : Cx p s m args meth c cX12_isKind 4 (some .boolean) RX12 D (tyL g) := C
  obtain ⟨hx, hb, hr, hml, hown, ht, hlocks, hK, hN⟩ := id C
  have hl : lv_has ls 4 [(0, .ref (a 0)), (1, .int x1), (2, .int x2)] := hl
  refine lv_iconst (v := 0) hx hb dX12_isKind_0 (by decide) ?_
  refine lv_istore_n (lv' := [(3, .int 0), (0, .ref (a 0)), (1, .int x1), (2, .int x2)]) hx hb dX12_isKind_1 rfl hl (by decide) rfl (fun ls hl => ?_)
  exact w_X12_isKind_l2 C N M hP x1 x2 r N 0 ls (lv_sub hl [1, 2, 3, 0] rfl) hf
set_option maxHeartbeats 4000000 in
set_option maxRecDepth 100000 in
theorem w_X12_kinds_l14 {p : Program} {l : Launch} {e : Env} {s : State} {m : MethodId} {args : Array Value} {below : List Frame} {meth : Method} {c : Code} {D : va_G} {g : Nat → ClassId} {a : Nat → Nat} (C : Cx p s m args meth c cX12_kinds 4 (some .int) RX12 D (tyL g)) (N : Nat) (M : Mem) (hP : va_P D clL (wM g a M) s.heap) (x1 : Int32) (r : Int32) :
    ∀ (n : Nat) (x2 : Int32) (x3 : Int32), ∀ (ls : Array Slot), lv_has ls 4 [(0, .ref (a 0)), (1, .int x1), (2, .int x2), (3, .int x3)] → f_X12_kinds_l14 N M x1 n x2 x3 = some r → W p l e (rmv 2 47) s m args below meth c s.heap [] 0 0 (MQ below (RdQ (.int r)) args s 0 0 nof) (F0 m 14 ls []) := by
  obtain ⟨hx, hb, hr, hml, hown, ht, hlocks, hK, hN⟩ := id C
  intro n
  induction n with
  | zero =>
    intro x2 x3 ls hl hf
    exact nos hf
  | succ n ih =>
    intro x2 x3 ls hl hf
    rw [f_X12_kinds_l14] at hf
    refine lv_iload_n hx hb dX12_kinds_14 rfl (lv_at hl 3 rfl) ?_
    refine lv_iconst (v := 3) hx hb dX12_kinds_15 (by decide) ?_
    refine lv_icmp_ge (tgt := 44) hx hb dX12_kinds_16 (by decide) (fun c_3 => ?_) (fun c_3 => ?_)
    · have hf := ifp c_3 hf
      refine lv_iload_n hx hb dX12_kinds_44 rfl (lv_at hl 2 rfl) ?_
      obtain rfl := Option.some.inj hf
      exact retR C dX12_kinds_45
    · have hf := ifn c_3 hf
      refine lv_iload_n hx hb dX12_kinds_19 rfl (lv_at hl 2 rfl) ?_
      refine lv_aload_n hx hb dX12_kinds_20 rfl (lv_at hl 0 rfl) ?_
      refine lv_iload_n hx hb dX12_kinds_21 rfl (lv_at hl 1 rfl) ?_
      refine lv_iload_n hx hb dX12_kinds_22 rfl (lv_at hl 3 rfl) ?_
      obtain ⟨r4, e_4, hf⟩ := bns hf
      refine kR (rV (rest := [.int x2]) C (c_X12_isKind l D g a N M x1 x3 r4 e_4) ok_X12_isKind wd_997 hP 0 (aM_0 g a M) rfl ⟨rfl, rfl, Nat.le_of_ble_eq_true rfl, Nat.le_of_ble_eq_true rfl⟩ rfl hl.1 rfl (Nat.le_of_ble_eq_true rfl) dX12_kinds_23 ⟨Nat.le_of_ble_eq_true rfl, Nat.le_of_ble_eq_true rfl⟩) ?_
      refine lv_if_eq (tgt := 35) hx hb dX12_kinds_26 (by decide) (fun c_5 => ?_) (fun c_5 => ?_)
      · have hf := ifp c_5 hf
        refine lv_iconst (v := 0) hx hb dX12_kinds_35 (by decide) ?_
        refine lv_ior hx hb dX12_kinds_36 ?_
        refine lv_topi (fun z6 ez6 => ?_)
        have hf := nmr ez6 hf
        refine lv_istore_n (lv' := [(2, .int z6), (0, .ref (a 0)), (1, .int x1), (3, .int x3)]) hx hb dX12_kinds_37 rfl hl (by decide) rfl (fun ls hl => ?_)
        refine lv_iinc (v := (x3 + 1)) (lv' := [(3, .int (x3 + 1)), (2, .int z6), (0, .ref (a 0)), (1, .int x1)]) hx hb dX12_kinds_38 hl (k := 3) rfl rfl (by decide) rfl (fun ls hl => ?_)
        refine lv_goto (tgt := 14) hx hb dX12_kinds_41 (by decide) ?_
        exact ih z6 (x3 + 1) ls (lv_sub hl [2, 3, 1, 0] rfl) hf
      · have hf := ifn c_5 hf
        refine lv_iconst (v := 1) hx hb dX12_kinds_29 (by decide) ?_
        refine lv_iload_n hx hb dX12_kinds_30 rfl (lv_at hl 3 rfl) ?_
        refine lv_ishl hx hb dX12_kinds_31 ?_
        refine lv_goto (tgt := 36) hx hb dX12_kinds_32 (by decide) ?_
        refine lv_ior hx hb dX12_kinds_36 ?_
        refine lv_topi (fun z7 ez7 => ?_)
        have hf := nmr ez7 hf
        refine lv_istore_n (lv' := [(2, .int z7), (0, .ref (a 0)), (1, .int x1), (3, .int x3)]) hx hb dX12_kinds_37 rfl hl (by decide) rfl (fun ls hl => ?_)
        refine lv_iinc (v := (x3 + 1)) (lv' := [(3, .int (x3 + 1)), (2, .int z7), (0, .ref (a 0)), (1, .int x1)]) hx hb dX12_kinds_38 hl (k := 3) rfl rfl (by decide) rfl (fun ls hl => ?_)
        refine lv_goto (tgt := 14) hx hb dX12_kinds_41 (by decide) ?_
        exact ih z7 (x3 + 1) ls (lv_sub hl [2, 3, 1, 0] rfl) hf
set_option maxHeartbeats 4000000 in
set_option maxRecDepth 100000 in
theorem c_X12_kinds (l : Launch) (D : va_G) (g : Nat → ClassId) (a : Nat → Nat) (N : Nat) (M : Mem) (x1 : Int32) (r : Int32) (hf : f_X12_kinds N M x1 = some r) : Met l yX12_kinds (cW yX12_kinds cX12_kinds 4 (some .int)) (rmv 2 47) (Pw D (tyL g) (wM g a M) [.ref (a 0), .int x1]) (RdQ (.int r)) 0 0 nof := by
  unfold f_X12_kinds at hf
  refine met_in (by decide) (Nat.le_of_ble_eq_true rfl) ?_
  intro p e s m args below meth c ls C hP hl
  have C : Cx p s m args meth c cX12_kinds 4 (some .int) RX12 D (tyL g) := C
  obtain ⟨hx, hb, hr, hml, hown, ht, hlocks, hK, hN⟩ := id C
  have hl : lv_has ls 4 [(0, .ref (a 0)), (1, .int x1)] := hl
  refine lv_aload_n hx hb dX12_kinds_0 rfl (lv_at hl 0 rfl) ?_
  refine lv_iload_n hx hb dX12_kinds_1 rfl (lv_at hl 1 rfl) ?_
  obtain ⟨r1, e_1, hf⟩ := bns hf
  refine kR (rV (rest := []) C (c_X12_isStone l D g a M x1 r1 e_1) ok_X12_isStone wd_850 hP 0 (aM_0 g a M) rfl ⟨rfl, rfl, Nat.le_of_ble_eq_true rfl, Nat.le_of_ble_eq_true rfl⟩ rfl hl.1 rfl (Nat.le_of_ble_eq_true rfl) dX12_kinds_2 ⟨Nat.le_of_ble_eq_true rfl, Nat.le_of_ble_eq_true rfl⟩) ?_
  refine lv_if_ne (tgt := 10) hx hb dX12_kinds_5 (by decide) (fun c_2 => ?_) (fun c_2 => ?_)
  · have hf := ifn c_2 hf
    refine lv_iconst (v := 0) hx hb dX12_kinds_10 (by decide) ?_
    refine lv_istore_n (lv' := [(2, .int 0), (0, .ref (a 0)), (1, .int x1)]) hx hb dX12_kinds_11 rfl hl (by decide) rfl (fun ls hl => ?_)
    refine lv_iconst (v := 0) hx hb dX12_kinds_12 (by decide) ?_
    refine lv_istore_n (lv' := [(3, .int 0), (2, .int 0), (0, .ref (a 0)), (1, .int x1)]) hx hb dX12_kinds_13 rfl hl (by decide) rfl (fun ls hl => ?_)
    exact w_X12_kinds_l14 C N M hP x1 r N 0 0 ls (lv_sub hl [2, 3, 1, 0] rfl) hf
  · have hf := ifp c_2 hf
    refine lv_iconst (v := (-1)) hx hb dX12_kinds_8 (by decide) ?_
    obtain rfl := Option.some.inj hf
    exact retR C dX12_kinds_9
