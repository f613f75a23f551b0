set_option maxHeartbeats 4000000 in
set_option maxRecDepth 100000 in
theorem w_X3_firstFault_l11 {p : Program} {l : Launch} {e : Env} {s : State} {m : MethodId} {args : Array Value} {below : List Frame} {meth : Method} {c : Code} {D : va_G} {g : Nat → ClassId} {a : Nat → Nat} (C : Cx p s m args meth c cX3_firstFault 9 (some .int) RX3 D (tyL g)) (N : Nat) {k : Nat} (hk : k < 4) (M : Mem) (hP : va_P D clL (wC g a M) s.heap) (x1 : Int32) (x2 : Int32) (r : Int32) :
    ∀ (n : Nat) (x3 : Int32) (x4 : Int32) (x5 : Int32) (x6 : Int32), ∀ (ls : Array Slot), lv_has ls 9 [(0, .ref (a (9 + k))), (1, .int x1), (2, .int x2), (3, .int x3), (4, .int x4), (5, .int x5), (6, .int x6)] → f_X3_firstFault_l11 N k M x1 x2 n x3 x4 x5 x6 = some r → W p l e (rmv 2 45) s m args below meth c s.heap [] 0 0 (MQ below (RdQ (.int r)) args s 0 0 nof) (F0 m 11 ls []) := by
  obtain ⟨hx, hb, hr, hml, hown, ht, hlocks, hK, hN⟩ := id C
  intro n
  induction n with
  | zero =>
    intro x3 x4 x5 x6 ls hl hf
    exact nos hf
  | succ n ih =>
    intro x3 x4 x5 x6 ls hl hf
    rw [f_X3_firstFault_l11] at hf
    refine lv_iload hx hb dX3_firstFault_11 (lv_at hl 6 rfl) ?_
    refine lv_iload_n hx hb dX3_firstFault_13 rfl (lv_at hl 2 rfl) ?_
    refine lv_icmp_ge (tgt := 123) hx hb dX3_firstFault_14 (by decide) (fun c_1 => ?_) (fun c_1 => ?_)
    · have hf := ifp c_1 hf
      refine lv_iload_n hx hb dX3_firstFault_123 rfl (lv_at hl 2 rfl) ?_
      refine lv_iload hx hb dX3_firstFault_124 (lv_at hl 5 rfl) ?_
      refine lv_icmp_ge (tgt := 133) hx hb dX3_firstFault_126 (by decide) (fun c_2 => ?_) (fun c_2 => ?_)
      · have hf := ifp c_2 hf
        refine lv_bipush (v := (-9)) hx hb dX3_firstFault_133 (by decide) ?_
        obtain rfl := Option.some.inj hf
        exact retR C dX3_firstFault_135
      · have hf := ifn c_2 hf
        refine lv_iload_n hx hb dX3_firstFault_129 rfl (lv_at hl 2 rfl) ?_
        refine lv_goto (tgt := 135) hx hb dX3_firstFault_130 (by decide) ?_
        obtain rfl := Option.some.inj hf
        exact retR C dX3_firstFault_135
    · have hf := ifn c_1 hf
      refine lv_aload_n hx hb dX3_firstFault_17 rfl (lv_at hl 0 rfl) ?_
      refine fg_X3_46 hk C hP dX3_firstFault_18 ?_
      refine lv_iload_n hx hb dX3_firstFault_21 rfl (lv_at hl 1 rfl) ?_
      refine lv_iload hx hb dX3_firstFault_22 (lv_at hl 6 rfl) ?_
      refine lv_iadd hx hb dX3_firstFault_24 ?_
      obtain ⟨h_3, hf⟩ := ifs hf
      refine va_iald hx hb hK hP (13 + k) 0 (aC_T g a M hk) rfl h_3 dX3_firstFault_25 ?_
      refine lv_topi (fun z4 ez4 => ?_)
      have hf := nmr ez4 hf
      refine lv_istore (lv' := [(7, .int z4), (0, .ref (a (9 + k))), (1, .int x1), (2, .int x2), (3, .int x3), (4, .int x4), (5, .int x5), (6, .int x6)]) hx hb dX3_firstFault_26 hl (by decide) rfl (fun ls hl => ?_)
      refine lv_iload hx hb dX3_firstFault_28 (lv_at hl 7 rfl) ?_
      refine lv_iconst (v := 3) hx hb dX3_firstFault_30 (by decide) ?_
      refine lv_icmp_ge (tgt := 44) hx hb dX3_firstFault_31 (by decide) (fun c_5 => ?_) (fun c_5 => ?_)
      · have hf := ifp c_5 hf
        refine lv_iload hx hb dX3_firstFault_44 (lv_at hl 7 rfl) ?_
        refine lv_iload hx hb dX3_firstFault_46 (lv_at hl 6 rfl) ?_
        refine lv_icmp_ge (tgt := 67) hx hb dX3_firstFault_48 (by decide) (fun c_6 => ?_) (fun c_6 => ?_)
        · have hf := ifp c_6 hf
          refine lv_iconst (v := 0) hx hb dX3_firstFault_67 (by decide) ?_
          refine lv_istore (lv' := [(8, .int 0), (7, .int z4), (0, .ref (a (9 + k))), (1, .int x1), (2, .int x2), (3, .int x3), (4, .int x4), (5, .int x5), (6, .int x6)]) hx hb dX3_firstFault_68 hl (by decide) rfl (fun ls hl => ?_)
          refine lv_iload hx hb dX3_firstFault_70 (lv_at hl 0 rfl) ?_
          refine lv_if_ne (tgt := 78) hx hb dX3_firstFault_72 (by decide) (fun q => absurd q (by decide)) (fun _ => ?_)
          refine lv_iload hx hb dX3_firstFault_75 (lv_at hl 8 rfl) ?_
          obtain rfl := Option.some.inj hf
          exact retR C dX3_firstFault_77
        · have hf := ifn c_6 hf
          refine lv_iload hx hb dX3_firstFault_51 (lv_at hl 7 rfl) ?_
          refine lv_iload hx hb dX3_firstFault_53 (lv_at hl 0 rfl) ?_
          refine lv_iload hx hb dX3_firstFault_55 (lv_at hl 5 rfl) ?_
          obtain ⟨r7, e_7, hf⟩ := bns hf
          refine kR (rS (rest := []) C (c_X3_fitsRow l D (tyL g) (wC g a M) x6 z4 x4 r7 e_7) ok_X3_fitsRow wd_294 hP ⟨rfl, rfl, Nat.le_of_ble_eq_true rfl, Nat.le_of_ble_eq_true rfl⟩ rfl hl.1 rfl (Nat.le_of_ble_eq_true rfl) dX3_firstFault_57 ⟨Nat.le_of_ble_eq_true rfl, Nat.le_of_ble_eq_true rfl⟩) ?_
          refine lv_if_eq (tgt := 67) hx hb dX3_firstFault_60 (by decide) (fun c_8 => ?_) (fun c_8 => ?_)
          · have hf := ifp c_8 hf
            refine lv_iconst (v := 0) hx hb dX3_firstFault_67 (by decide) ?_
            refine lv_istore (lv' := [(8, .int 0), (7, .int z4), (0, .ref (a (9 + k))), (1, .int x1), (2, .int x2), (3, .int x3), (4, .int x4), (5, .int x5), (6, .int x6)]) hx hb dX3_firstFault_68 hl (by decide) rfl (fun ls hl => ?_)
            refine lv_iload hx hb dX3_firstFault_70 (lv_at hl 0 rfl) ?_
            refine lv_if_ne (tgt := 78) hx hb dX3_firstFault_72 (by decide) (fun q => absurd q (by decide)) (fun _ => ?_)
            refine lv_iload hx hb dX3_firstFault_75 (lv_at hl 8 rfl) ?_
            obtain rfl := Option.some.inj hf
            exact retR C dX3_firstFault_77
          · have hf := ifn c_8 hf
            refine lv_iconst (v := 1) hx hb dX3_firstFault_63 (by decide) ?_
            refine lv_goto (tgt := 68) hx hb dX3_firstFault_64 (by decide) ?_
            refine lv_istore (lv' := [(8, .int 1), (7, .int z4), (0, .ref (a (9 + k))), (1, .int x1), (2, .int x2), (3, .int x3), (4, .int x4), (5, .int x5), (6, .int x6)]) hx hb dX3_firstFault_68 hl (by decide) rfl (fun ls hl => ?_)
            refine lv_iload hx hb dX3_firstFault_70 (lv_at hl 0 rfl) ?_
            refine lv_if_ne (tgt := 78) hx hb dX3_firstFault_72 (by decide) (fun _ => ?_) (fun q => absurd q (by decide))
            refine lv_iload hx hb dX3_firstFault_78 (lv_at hl 8 rfl) ?_
            refine lv_iconst (v := 1) hx hb dX3_firstFault_80 (by decide) ?_
            refine lv_icmp_ne (tgt := 93) hx hb dX3_firstFault_81 (by decide) (fun c_9 => ?_) (fun c_9 => ?_)
            · have hf := ifn c_9 hf
              refine lv_iload hx hb dX3_firstFault_93 (lv_at hl 8 rfl) ?_
              refine lv_iconst (v := 2) hx hb dX3_firstFault_95 (by decide) ?_
              refine lv_icmp_ne (tgt := 117) hx hb dX3_firstFault_96 (by decide) (fun c_10 => ?_) (fun c_10 => ?_)
              · have hf := ifn c_10 hf
                refine lv_iinc (v := (x6 + 1)) (lv' := [(6, .int (x6 + 1)), (8, .int 1), (7, .int z4), (0, .ref (a (9 + k))), (1, .int x1), (2, .int x2), (3, .int x3), (4, .int x4), (5, .int x5)]) hx hb dX3_firstFault_117 hl (k := 8) rfl rfl (by decide) rfl (fun ls hl => ?_)
                refine lv_goto (tgt := 11) hx hb dX3_firstFault_120 (by decide) ?_
                exact ih x3 x4 x5 (x6 + 1) ls (lv_sub hl [3, 4, 5, 6, 7, 8, 0] rfl) hf
              · have hf := ifp c_10 hf
                refine lv_iload hx hb dX3_firstFault_99 (lv_at hl 1 rfl) ?_
                refine lv_bipush (v := 48) hx hb dX3_firstFault_101 (by decide) ?_
                refine lv_isub hx hb dX3_firstFault_103 ?_
                refine lv_topi (fun z11 ez11 => ?_)
                have hf := nmr ez11 hf
                refine lv_istore (lv' := [(4, .int z11), (8, .int 1), (7, .int z4), (0, .ref (a (9 + k))), (1, .int x1), (2, .int x2), (3, .int x3), (5, .int x5), (6, .int x6)]) hx hb dX3_firstFault_104 hl (by decide) rfl (fun ls hl => ?_)
                refine lv_iconst (v := 3) hx hb dX3_firstFault_106 (by decide) ?_
                refine lv_iload_n hx hb dX3_firstFault_107 rfl (lv_at hl 6 rfl) ?_
                refine lv_iload hx hb dX3_firstFault_108 (lv_at hl 0 rfl) ?_
                obtain ⟨r12, e_12, hf⟩ := bns hf
                refine kR (rS (rest := [.int x3, .int 3]) C (c_X3_rowLength l D (tyL g) (wC g a M) z11 r12 e_12) ok_X3_rowLength wd_297 hP ⟨rfl, rfl, Nat.le_of_ble_eq_true rfl, Nat.le_of_ble_eq_true rfl⟩ rfl hl.1 rfl (Nat.le_of_ble_eq_true rfl) dX3_firstFault_110 ⟨Nat.le_of_ble_eq_true rfl, Nat.le_of_ble_eq_true rfl⟩) ?_
                refine lv_imul hx hb dX3_firstFault_113 ?_
                refine lv_iadd hx hb dX3_firstFault_114 ?_
                refine lv_topi (fun z13 ez13 => ?_)
                have hf := nmr ez13 hf
                refine lv_istore (lv' := [(5, .int z13), (4, .int z11), (8, .int 1), (7, .int z4), (0, .ref (a (9 + k))), (1, .int x1), (2, .int x2), (3, .int x3), (6, .int x6)]) hx hb dX3_firstFault_115 hl (by decide) rfl (fun ls hl => ?_)
                refine lv_iinc (v := (x6 + 1)) (lv' := [(6, .int (x6 + 1)), (5, .int z13), (4, .int z11), (8, .int 1), (7, .int z4), (0, .ref (a (9 + k))), (1, .int x1), (2, .int x2), (3, .int x3)]) hx hb dX3_firstFault_117 hl (k := 8) rfl rfl (by decide) rfl (fun ls hl => ?_)
                refine lv_goto (tgt := 11) hx hb dX3_firstFault_120 (by decide) ?_
                exact ih x3 z11 z13 (x6 + 1) ls (lv_sub hl [5, 6, 7, 8, 2, 1, 0] rfl) hf
            · have hf := ifp c_9 hf
              refine lv_iload hx hb dX3_firstFault_84 (lv_at hl 1 rfl) ?_
              refine lv_bipush (v := 48) hx hb dX3_firstFault_86 (by decide) ?_
              refine lv_isub hx hb dX3_firstFault_88 ?_
              refine lv_topi (fun z14 ez14 => ?_)
              have hf := nmr ez14 hf
              refine lv_istore_n (lv' := [(3, .int z14), (8, .int 1), (7, .int z4), (0, .ref (a (9 + k))), (1, .int x1), (2, .int x2), (4, .int x4), (5, .int x5), (6, .int x6)]) hx hb dX3_firstFault_89 rfl hl (by decide) rfl (fun ls hl => ?_)
              refine lv_goto (tgt := 117) hx hb dX3_firstFault_90 (by decide) ?_
              refine lv_iinc (v := (x6 + 1)) (lv' := [(6, .int (x6 + 1)), (3, .int z14), (8, .int 1), (7, .int z4), (0, .ref (a (9 + k))), (1, .int x1), (2, .int x2), (4, .int x4), (5, .int x5)]) hx hb dX3_firstFault_117 hl (k := 8) rfl rfl (by decide) rfl (fun ls hl => ?_)
              refine lv_goto (tgt := 11) hx hb dX3_firstFault_120 (by decide) ?_
              exact ih z14 x4 x5 (x6 + 1) ls (lv_sub hl [4, 5, 6, 1, 7, 8, 0] rfl) hf
      · have hf := ifn c_5 hf
        refine lv_iload hx hb dX3_firstFault_34 (lv_at hl 7 rfl) ?_
        refine lv_iload hx hb dX3_firstFault_36 (lv_at hl 0 rfl) ?_
        obtain ⟨r15, e_15, hf⟩ := bns hf
        refine kR (rS (rest := []) C (c_X3_fitsHead l D (tyL g) (wC g a M) x6 z4 r15 e_15) ok_X3_fitsHead wd_290 hP ⟨rfl, rfl, Nat.le_of_ble_eq_true rfl, Nat.le_of_ble_eq_true rfl⟩ rfl hl.1 rfl (Nat.le_of_ble_eq_true rfl) dX3_firstFault_38 ⟨Nat.le_of_ble_eq_true rfl, Nat.le_of_ble_eq_true rfl⟩) ?_
        refine lv_goto (tgt := 68) hx hb dX3_firstFault_41 (by decide) ?_
        refine lv_istore (lv' := [(8, .int r15), (7, .int z4), (0, .ref (a (9 + k))), (1, .int x1), (2, .int x2), (3, .int x3), (4, .int x4), (5, .int x5), (6, .int x6)]) hx hb dX3_firstFault_68 hl (by decide) rfl (fun ls hl => ?_)
        refine lv_iload hx hb dX3_firstFault_70 (lv_at hl 0 rfl) ?_
        refine lv_if_ne (tgt := 78) hx hb dX3_firstFault_72 (by decide) (fun c_16 => ?_) (fun c_16 => ?_)
        · have hf := ifn c_16 hf
          refine lv_iload hx hb dX3_firstFault_78 (lv_at hl 8 rfl) ?_
          refine lv_iconst (v := 1) hx hb dX3_firstFault_80 (by decide) ?_
          refine lv_icmp_ne (tgt := 93) hx hb dX3_firstFault_81 (by decide) (fun c_17 => ?_) (fun c_17 => ?_)
          · have hf := ifn c_17 hf
            refine lv_iload hx hb dX3_firstFault_93 (lv_at hl 8 rfl) ?_
            refine lv_iconst (v := 2) hx hb dX3_firstFault_95 (by decide) ?_
            refine lv_icmp_ne (tgt := 117) hx hb dX3_firstFault_96 (by decide) (fun c_18 => ?_) (fun c_18 => ?_)
            · have hf := ifn c_18 hf
              refine lv_iinc (v := (x6 + 1)) (lv' := [(6, .int (x6 + 1)), (8, .int r15), (7, .int z4), (0, .ref (a (9 + k))), (1, .int x1), (2, .int x2), (3, .int x3), (4, .int x4), (5, .int x5)]) hx hb dX3_firstFault_117 hl (k := 8) rfl rfl (by decide) rfl (fun ls hl => ?_)
              refine lv_goto (tgt := 11) hx hb dX3_firstFault_120 (by decide) ?_
              exact ih x3 x4 x5 (x6 + 1) ls (lv_sub hl [3, 4, 5, 6, 7, 8, 0] rfl) hf
            · have hf := ifp c_18 hf
              refine lv_iload hx hb dX3_firstFault_99 (lv_at hl 1 rfl) ?_
              refine lv_bipush (v := 48) hx hb dX3_firstFault_101 (by decide) ?_
              refine lv_isub hx hb dX3_firstFault_103 ?_
              refine lv_topi (fun z19 ez19 => ?_)
              have hf := nmr ez19 hf
              refine lv_istore (lv' := [(4, .int z19), (8, .int r15), (7, .int z4), (0, .ref (a (9 + k))), (1, .int x1), (2, .int x2), (3, .int x3), (5, .int x5), (6, .int x6)]) hx hb dX3_firstFault_104 hl (by decide) rfl (fun ls hl => ?_)
              refine lv_iconst (v := 3) hx hb dX3_firstFault_106 (by decide) ?_
              refine lv_iload_n hx hb dX3_firstFault_107 rfl (lv_at hl 6 rfl) ?_
              refine lv_iload hx hb dX3_firstFault_108 (lv_at hl 0 rfl) ?_
              obtain ⟨r20, e_20, hf⟩ := bns hf
              refine kR (rS (rest := [.int x3, .int 3]) C (c_X3_rowLength l D (tyL g) (wC g a M) z19 r20 e_20) ok_X3_rowLength wd_297 hP ⟨rfl, rfl, Nat.le_of_ble_eq_true rfl, Nat.le_of_ble_eq_true rfl⟩ rfl hl.1 rfl (Nat.le_of_ble_eq_true rfl) dX3_firstFault_110 ⟨Nat.le_of_ble_eq_true rfl, Nat.le_of_ble_eq_true rfl⟩) ?_
              refine lv_imul hx hb dX3_firstFault_113 ?_
              refine lv_iadd hx hb dX3_firstFault_114 ?_
              refine lv_topi (fun z21 ez21 => ?_)
              have hf := nmr ez21 hf
              refine lv_istore (lv' := [(5, .int z21), (4, .int z19), (8, .int r15), (7, .int z4), (0, .ref (a (9 + k))), (1, .int x1), (2, .int x2), (3, .int x3), (6, .int x6)]) hx hb dX3_firstFault_115 hl (by decide) rfl (fun ls hl => ?_)
              refine lv_iinc (v := (x6 + 1)) (lv' := [(6, .int (x6 + 1)), (5, .int z21), (4, .int z19), (8, .int r15), (7, .int z4), (0, .ref (a (9 + k))), (1, .int x1), (2, .int x2), (3, .int x3)]) hx hb dX3_firstFault_117 hl (k := 8) rfl rfl (by decide) rfl (fun ls hl => ?_)
              refine lv_goto (tgt := 11) hx hb dX3_firstFault_120 (by decide) ?_
              exact ih x3 z19 z21 (x6 + 1) ls (lv_sub hl [5, 6, 7, 8, 2, 1, 0] rfl) hf
          · have hf := ifp c_17 hf
            refine lv_iload hx hb dX3_firstFault_84 (lv_at hl 1 rfl) ?_
            refine lv_bipush (v := 48) hx hb dX3_firstFault_86 (by decide) ?_
            refine lv_isub hx hb dX3_firstFault_88 ?_
            refine lv_topi (fun z22 ez22 => ?_)
            have hf := nmr ez22 hf
            refine lv_istore_n (lv' := [(3, .int z22), (8, .int r15), (7, .int z4), (0, .ref (a (9 + k))), (1, .int x1), (2, .int x2), (4, .int x4), (5, .int x5), (6, .int x6)]) hx hb dX3_firstFault_89 rfl hl (by decide) rfl (fun ls hl => ?_)
            refine lv_goto (tgt := 117) hx hb dX3_firstFault_90 (by decide) ?_
            refine lv_iinc (v := (x6 + 1)) (lv' := [(6, .int (x6 + 1)), (3, .int z22), (8, .int r15), (7, .int z4), (0, .ref (a (9 + k))), (1, .int x1), (2, .int x2), (4, .int x4), (5, .int x5)]) hx hb dX3_firstFault_117 hl (k := 8) rfl rfl (by decide) rfl (fun ls hl => ?_)
            refine lv_goto (tgt := 11) hx hb dX3_firstFault_120 (by decide) ?_
            exact ih z22 x4 x5 (x6 + 1) ls (lv_sub hl [4, 5, 6, 1, 7, 8, 0] rfl) hf
        · have hf := ifp c_16 hf
          refine lv_iload hx hb dX3_firstFault_75 (lv_at hl 8 rfl) ?_
          obtain rfl := Option.some.inj hf
          exact retR C dX3_firstFault_77
set_option maxHeartbeats 4000000 in
set_option maxRecDepth 100000 in
theorem c_X3_firstFault (l : Launch) (D : va_G) (g : Nat → ClassId) (a : Nat → Nat) (N : Nat) (k : Nat) (hk : k < 4) (M : Mem) (x1 : Int32) (x2 : Int32) (r : Int32) (hf : f_X3_firstFault N k M x1 x2 = some r) : Met l yX3_firstFault (cW yX3_firstFault cX3_firstFault 9 (some .int)) (rmv 2 45) (Pw D (tyL g) (wC g a M) [.ref (a (9 + k)), .int x1, .int x2]) (RdQ (.int r)) 0 0 nof := by
  unfold f_X3_firstFault at hf
  refine met_in (by decide) (Nat.le_of_ble_eq_true rfl) ?_
  intro p e s m args below meth c ls C hP hl
  have C : Cx p s m args meth c cX3_firstFault 9 (some .int) RX3 D (tyL g) := C
  obtain ⟨hx, hb, hr, hml, hown, ht, hlocks, hK, hN⟩ := id C
  have hl : lv_has ls 9 [(0, .ref (a (9 + k))), (1, .int x1), (2, .int x2)] := hl
  refine lv_iconst (v := 0) hx hb dX3_firstFault_0 (by decide) ?_
  refine lv_istore_n (lv' := [(3, .int 0), (0, .ref (a (9 + k))), (1, .int x1), (2, .int x2)]) hx hb dX3_firstFault_1 rfl hl (by decide) rfl (fun ls hl => ?_)
  refine lv_iconst (v := 0) hx hb dX3_firstFault_2 (by decide) ?_
  refine lv_istore (lv' := [(4, .int 0), (3, .int 0), (0, .ref (a (9 + k))), (1, .int x1), (2, .int x2)]) hx hb dX3_firstFault_3 hl (by decide) rfl (fun ls hl => ?_)
  refine lv_iconst (v := 3) hx hb dX3_firstFault_5 (by decide) ?_
  refine lv_istore (lv' := [(5, .int 3), (4, .int 0), (3, .int 0), (0, .ref (a (9 + k))), (1, .int x1), (2, .int x2)]) hx hb dX3_firstFault_6 hl (by decide) rfl (fun ls hl => ?_)
  refine lv_iconst (v := 0) hx hb dX3_firstFault_8 (by decide) ?_
  refine lv_istore (lv' := [(6, .int 0), (5, .int 3), (4, .int 0), (3, .int 0), (0, .ref (a (9 + k))), (1, .int x1), (2, .int x2)]) hx hb dX3_firstFault_9 hl (by decide) rfl (fun ls hl => ?_)
  exact w_X3_firstFault_l11 C N hk M hP x1 x2 r N 0 0 3 0 ls (lv_sub hl [4, 5, 6, 3, 2, 1, 0] rfl) hf
set_option maxHeartbeats 4000000 in
set_option maxRecDepth 100000 in
theorem w_X3_lay_l145 {p : Program} {l : Launch} {e : Env} {s : State} {m : MethodId} {args : Array Value} {below : List Frame} {meth : Method} {c : Code} {D : va_G} {g : Nat → ClassId} {a : Nat → Nat} (C : Cx p s m args meth c cX3_lay 7 none RX3 D (tyL g)) (hJ : Inj a 41) (N : Nat) {k : Nat} (hk : k < 4) (M' : Mem) :
    ∀ (n : Nat) (M : Mem) (x5 : Int32), ∀ (H : Heap) (locs : List Loc), va_P D clL (wC g a M) H → va_S (inA a 41) s.heap H locs → ∀ (ls : Array Slot), lv_has ls 7 [(0, .ref (a 2)), (5, .int x5)] → f_X3_lay_l145 N k n M x5 = some M' → W p l e (rmv 1 20) s m args below meth c H locs 0 0 (MQ below (WvQ D (wC g a M') (inA a 41)) args s 0 0 (inA a 41)) (F0 m 145 ls []) := by
  obtain ⟨hx, hb, hr, hml, hown, ht, hlocks, hK, hN⟩ := id C
  intro n
  induction n with
  | zero =>
    intro M x5 H locs hP hS ls hl hf
    exact nos hf
  | succ n ih =>
    intro M x5 H locs hP hS ls hl hf
    rw [f_X3_lay_l145] at hf
    refine lv_iload hx hb dX3_lay_145 (lv_at hl 1 rfl) ?_
    refine lv_bipush (v := 12) hx hb dX3_lay_147 (by decide) ?_
    refine lv_icmp_ge (tgt := 174) hx hb dX3_lay_149 (by decide) (fun c_7 => ?_) (fun c_7 => ?_)
    · have hf := ifp c_7 hf
      obtain rfl := Option.some.inj hf
      exact retWv C hP hS dX3_lay_174
    · have hf := ifn c_7 hf
      refine lv_aload_n hx hb dX3_lay_152 rfl (lv_at hl 0 rfl) ?_
      refine fg_X3_40 C hP dX3_lay_153 ?_
      refine lv_iload hx hb dX3_lay_156 (lv_at hl 1 rfl) ?_
      refine lv_iconst (v := 0) hx hb dX3_lay_158 (by decide) ?_
      obtain ⟨h_8, hf⟩ := ifs hf
      refine ast (wC g a) C hP (wC_D hJ) hS 26 0 (aC_26 g a M) rfl (sC_26 g a M) h_8 dX3_lay_159 (fun H locs hP hS => ?_)
      obtain ⟨M9, eM9, hf⟩ := nms hf
      have hP : va_P D clL (wC g a M9) H := by rw [eM9]; exact hP
      refine lv_aload_n hx hb dX3_lay_160 rfl (lv_at hl 0 rfl) ?_
      refine fg_X3_43 C hP dX3_lay_161 ?_
      refine lv_iload hx hb dX3_lay_164 (lv_at hl 1 rfl) ?_
      refine lv_iconst (v := 0) hx hb dX3_lay_166 (by decide) ?_
      refine ast (wC g a) C hP (wC_D hJ) hS 27 0 (aC_27 g a M9) rfl (sC_27 g a M9) h_8 dX3_lay_167 (fun H locs hP hS => ?_)
      obtain ⟨M10, eM10, hf⟩ := nms hf
      have hP : va_P D clL (wC g a M10) H := by rw [eM10]; exact hP
      refine lv_iinc (v := (x5 + 1)) (lv' := [(5, .int (x5 + 1)), (0, .ref (a 2))]) hx hb dX3_lay_168 hl (k := 1) rfl rfl (by decide) rfl (fun ls hl => ?_)
      refine lv_goto (tgt := 145) hx hb dX3_lay_171 (by decide) ?_
      exact ih M10 (x5 + 1) H locs hP hS ls (lv_sub hl [1, 0] rfl) hf
set_option maxHeartbeats 4000000 in
set_option maxRecDepth 100000 in
theorem w_X3_lay_l55 {p : Program} {l : Launch} {e : Env} {s : State} {m : MethodId} {args : Array Value} {below : List Frame} {meth : Method} {c : Code} {D : va_G} {g : Nat → ClassId} {a : Nat → Nat} (C : Cx p s m args meth c cX3_lay 7 none RX3 D (tyL g)) (hJ : Inj a 41) (N : Nat) {k : Nat} (hk : k < 4) (x5 : Int32) (M' : Mem) (kc : Mem → Int32 → Int32 → Option (Mem)) (hkc : ∀ (M : Mem), ∀ (y3 : Int32) (y4 : Int32), ∀ (H : Heap) (locs : List Loc), va_P D clL (wC g a M) H → va_S (inA a 41) s.heap H locs → ∀ (ls : Array Slot), lv_has ls 7 [(0, .ref (a 2)), (1, .ref (a (9 + k))), (3, .int y3), (4, .int y4), (5, .int x5)] → kc M y3 y4 = some M' → W p l e (rmv 1 20) s m args below meth c H locs 0 0 (MQ below (WvQ D (wC g a M') (inA a 41)) args s 0 0 (inA a 41)) (F0 m 136 ls [])) :
    ∀ (n : Nat) (M : Mem) (x3 : Int32) (x4 : Int32) (x6 : Int32), ∀ (H : Heap) (locs : List Loc), va_P D clL (wC g a M) H → va_S (inA a 41) s.heap H locs → ∀ (ls : Array Slot), lv_has ls 7 [(0, .ref (a 2)), (1, .ref (a (9 + k))), (3, .int x3), (4, .int x4), (5, .int x5), (6, .int x6)] → f_X3_lay_l55 kc N k x5 n M x3 x4 x6 = some M' → W p l e (rmv 1 20) s m args below meth c H locs 0 0 (MQ below (WvQ D (wC g a M') (inA a 41)) args s 0 0 (inA a 41)) (F0 m 55 ls []) := by
  obtain ⟨hx, hb, hr, hml, hown, ht, hlocks, hK, hN⟩ := id C
  intro n
  induction n with
  | zero =>
    intro M x3 x4 x6 H locs hP hS ls hl hf
    exact nos hf
  | succ n ih =>
    intro M x3 x4 x6 H locs hP hS ls hl hf
    rw [f_X3_lay_l55] at hf
    refine lv_iload hx hb dX3_lay_55 (lv_at hl 5 rfl) ?_
    refine lv_aload_n hx hb dX3_lay_57 rfl (lv_at hl 0 rfl) ?_
    refine fg_X3_73 C hP dX3_lay_58 ?_
    refine lv_icmp_ge (tgt := 136) hx hb dX3_lay_61 (by decide) (fun c_11 => ?_) (fun c_11 => ?_)
    · have hf := ifp c_11 hf
      exact hkc M x3 x4 H locs hP hS ls (lv_sub hl [0, 1, 2, 3, 4] rfl) hf
    · have hf := ifn c_11 hf
      refine lv_aload_n hx hb dX3_lay_64 rfl (lv_at hl 0 rfl) ?_
      refine fg_X3_24 C hP dX3_lay_65 ?_
      refine lv_iload hx hb dX3_lay_68 (lv_at hl 3 rfl) ?_
      refine lv_aload_n hx hb dX3_lay_70 rfl (lv_at hl 1 rfl) ?_
      refine fg_X3_46 hk C hP dX3_lay_71 ?_
      refine lv_iload_n hx hb dX3_lay_74 rfl (lv_at hl 2 rfl) ?_
      obtain ⟨h_12, hf⟩ := ifs hf
      refine va_iald hx hb hK hP (13 + k) 0 (aC_T g a M hk) rfl h_12 dX3_lay_75 ?_
      obtain ⟨r13, e_13, hf⟩ := bns hf
      refine kR (rS (rest := [.int x4, .ref (a 21)]) C (c_X3_kindBy l D (tyL g) (wC g a M) (M (13 + k) x3.toNatClampNeg) r13 e_13) ok_X3_kindBy wd_300 hP ⟨rfl, rfl, Nat.le_of_ble_eq_true rfl, Nat.le_of_ble_eq_true rfl⟩ rfl hl.1 rfl (Nat.le_of_ble_eq_true rfl) dX3_lay_76 ⟨Nat.le_of_ble_eq_true rfl, Nat.le_of_ble_eq_true rfl⟩) ?_
      obtain ⟨h_14, hf⟩ := ifs hf
      refine ast (wC g a) C hP (wC_D hJ) hS 21 0 (aC_21 g a M) rfl (sC_21 g a M) h_14 dX3_lay_79 (fun H locs hP hS => ?_)
      obtain ⟨M15, eM15, hf⟩ := nms hf
      have hP : va_P D clL (wC g a M15) H := by rw [eM15]; exact hP
      refine lv_aload_n hx hb dX3_lay_80 rfl (lv_at hl 0 rfl) ?_
      refine fg_X3_28 C hP dX3_lay_81 ?_
      refine lv_iload hx hb dX3_lay_84 (lv_at hl 3 rfl) ?_
      refine lv_aload_n hx hb dX3_lay_86 rfl (lv_at hl 1 rfl) ?_
      refine fg_X3_46 hk C hP dX3_lay_87 ?_
      refine lv_iload_n hx hb dX3_lay_90 rfl (lv_at hl 2 rfl) ?_
      refine lv_iconst (v := 1) hx hb dX3_lay_91 (by decide) ?_
      refine lv_iadd hx hb dX3_lay_92 ?_
      obtain ⟨h_16, hf⟩ := ifs hf
      refine va_iald hx hb hK hP (13 + k) 0 (aC_T g a M15 hk) rfl h_16 dX3_lay_93 ?_
      refine lv_bipush (v := 48) hx hb dX3_lay_94 (by decide) ?_
      refine lv_isub hx hb dX3_lay_96 ?_
      refine ast (wC g a) C hP (wC_D hJ) hS 22 0 (aC_22 g a M15) rfl (sC_22 g a M15) h_14 dX3_lay_97 (fun H locs hP hS => ?_)
      obtain ⟨M17, eM17, hf⟩ := nms hf
      have hP : va_P D clL (wC g a M17) H := by rw [eM17]; exact hP
      refine lv_aload_n hx hb dX3_lay_98 rfl (lv_at hl 0 rfl) ?_
      refine fg_X3_31 C hP dX3_lay_99 ?_
      refine lv_iload hx hb dX3_lay_102 (lv_at hl 3 rfl) ?_
      refine lv_iconst (v := 0) hx hb dX3_lay_104 (by decide) ?_
      refine ast (wC g a) C hP (wC_D hJ) hS 23 0 (aC_23 g a M17) rfl (sC_23 g a M17) h_14 dX3_lay_105 (fun H locs hP hS => ?_)
      obtain ⟨M18, eM18, hf⟩ := nms hf
      have hP : va_P D clL (wC g a M18) H := by rw [eM18]; exact hP
      refine lv_aload_n hx hb dX3_lay_106 rfl (lv_at hl 0 rfl) ?_
      refine fg_X3_34 C hP dX3_lay_107 ?_
      refine lv_iload hx hb dX3_lay_110 (lv_at hl 3 rfl) ?_
      refine lv_iload hx hb dX3_lay_112 (lv_at hl 4 rfl) ?_
      refine ast (wC g a) C hP (wC_D hJ) hS 24 0 (aC_24 g a M18) rfl (sC_24 g a M18) h_14 dX3_lay_114 (fun H locs hP hS => ?_)
      obtain ⟨M19, eM19, hf⟩ := nms hf
      have hP : va_P D clL (wC g a M19) H := by rw [eM19]; exact hP
      refine lv_aload_n hx hb dX3_lay_115 rfl (lv_at hl 0 rfl) ?_
      refine fg_X3_37 C hP dX3_lay_116 ?_
      refine lv_iload hx hb dX3_lay_119 (lv_at hl 3 rfl) ?_
      refine lv_iload hx hb dX3_lay_121 (lv_at hl 5 rfl) ?_
      refine ast (wC g a) C hP (wC_D hJ) hS 25 0 (aC_25 g a M19) rfl (sC_25 g a M19) h_14 dX3_lay_123 (fun H locs hP hS => ?_)
      obtain ⟨M20, eM20, hf⟩ := nms hf
      have hP : va_P D clL (wC g a M20) H := by rw [eM20]; exact hP
      refine lv_iinc (v := (x3 + 2)) (lv' := [(3, .int (x3 + 2)), (0, .ref (a 2)), (1, .ref (a (9 + k))), (4, .int x4), (5, .int x5), (6, .int x6)]) hx hb dX3_lay_124 hl (k := 2) rfl rfl (by decide) rfl (fun ls hl => ?_)
      refine lv_iinc (v := (x4 + 1)) (lv' := [(4, .int (x4 + 1)), (3, .int (x3 + 2)), (0, .ref (a 2)), (1, .ref (a (9 + k))), (5, .int x5), (6, .int x6)]) hx hb dX3_lay_127 hl (k := 3) rfl rfl (by decide) rfl (fun ls hl => ?_)
      refine lv_iinc (v := (x6 + 1)) (lv' := [(6, .int (x6 + 1)), (4, .int (x4 + 1)), (3, .int (x3 + 2)), (0, .ref (a 2)), (1, .ref (a (9 + k))), (5, .int x5)]) hx hb dX3_lay_130 hl (k := 5) rfl rfl (by decide) rfl (fun ls hl => ?_)
      refine lv_goto (tgt := 55) hx hb dX3_lay_133 (by decide) ?_
      exact ih M20 (x3 + 2) (x4 + 1) (x6 + 1) H locs hP hS ls (lv_sub hl [3, 4, 2, 1, 5, 0] rfl) hf
set_option maxHeartbeats 4000000 in
set_option maxRecDepth 100000 in
theorem w_X3_lay_l40 {p : Program} {l : Launch} {e : Env} {s : State} {m : MethodId} {args : Array Value} {below : List Frame} {meth : Method} {c : Code} {D : va_G} {g : Nat → ClassId} {a : Nat → Nat} (C : Cx p s m args meth c cX3_lay 7 none RX3 D (tyL g)) (hJ : Inj a 41) (N : Nat) {k : Nat} (hk : k < 4) (M' : Mem) :
    ∀ (n : Nat) (M : Mem) (x3 : Int32) (x4 : Int32) (x5 : Int32), ∀ (H : Heap) (locs : List Loc), va_P D clL (wC g a M) H → va_S (inA a 41) s.heap H locs → ∀ (ls : Array Slot), lv_has ls 7 [(0, .ref (a 2)), (1, .ref (a (9 + k))), (3, .int x3), (4, .int x4), (5, .int x5)] → f_X3_lay_l40 N k n M x3 x4 x5 = some M' → W p l e (rmv 1 20) s m args below meth c H locs 0 0 (MQ below (WvQ D (wC g a M') (inA a 41)) args s 0 0 (inA a 41)) (F0 m 40 ls []) := by
  obtain ⟨hx, hb, hr, hml, hown, ht, hlocks, hK, hN⟩ := id C
  intro n
  induction n with
  | zero =>
    intro M x3 x4 x5 H locs hP hS ls hl hf
    exact nos hf
  | succ n ih =>
    intro M x3 x4 x5 H locs hP hS ls hl hf
    rw [f_X3_lay_l40] at hf
    refine lv_iload hx hb dX3_lay_40 (lv_at hl 4 rfl) ?_
    refine lv_aload_n hx hb dX3_lay_42 rfl (lv_at hl 0 rfl) ?_
    refine fg_X3_69 C hP dX3_lay_43 ?_
    refine lv_icmp_ge (tgt := 142) hx hb dX3_lay_46 (by decide) (fun c_6 => ?_) (fun c_6 => ?_)
    · have hf := ifp c_6 hf
      refine lv_iconst (v := 0) hx hb dX3_lay_142 (by decide) ?_
      refine lv_istore (lv' := [(5, .int 0), (0, .ref (a 2)), (1, .ref (a (9 + k))), (3, .int x3), (4, .int x4)]) hx hb dX3_lay_143 hl (by decide) rfl (fun ls hl => ?_)
      exact w_X3_lay_l145 C hJ N hk M' N M 0 H locs hP hS ls (lv_sub hl [1, 0] rfl) hf
    · have hf := ifn c_6 hf
      refine lv_iinc (v := (x3 + 1)) (lv' := [(3, .int (x3 + 1)), (0, .ref (a 2)), (1, .ref (a (9 + k))), (4, .int x4), (5, .int x5)]) hx hb dX3_lay_49 hl (k := 2) rfl rfl (by decide) rfl (fun ls hl => ?_)
      refine lv_iconst (v := 0) hx hb dX3_lay_52 (by decide) ?_
      refine lv_istore (lv' := [(6, .int 0), (3, .int (x3 + 1)), (0, .ref (a 2)), (1, .ref (a (9 + k))), (4, .int x4), (5, .int x5)]) hx hb dX3_lay_53 hl (by decide) rfl (fun ls hl => ?_)
      refine w_X3_lay_l55 C hJ N hk x5 M' _ (fun M21 y3_21 y4_21 H locs hP hS ls hl hf => ?_) N M (x3 + 1) x4 0 H locs hP hS ls (lv_sub hl [2, 3, 1, 4, 5, 0] rfl) hf
      refine lv_iinc (v := (x5 + 1)) (lv' := [(5, .int (x5 + 1)), (0, .ref (a 2)), (1, .ref (a (9 + k))), (3, .int y3_21), (4, .int y4_21)]) hx hb dX3_lay_136 hl (k := 4) rfl rfl (by decide) rfl (fun ls hl => ?_)
      refine lv_goto (tgt := 40) hx hb dX3_lay_139 (by decide) ?_
      exact ih M21 y3_21 y4_21 (x5 + 1) H locs hP hS ls (lv_sub hl [1, 2, 3, 4, 0] rfl) hf
set_option maxHeartbeats 4000000 in
set_option maxRecDepth 100000 in
theorem c_X3_lay (l : Launch) (D : va_G) (g : Nat → ClassId) (a : Nat → Nat) (hJ : Inj a 41) (N : Nat) (k : Nat) (hk : k < 4) (M : Mem) (x2 : Int32) (M' : Mem) (hf : f_X3_lay N k M x2 = some M') : Met l yX3_lay (cW yX3_lay cX3_lay 7 none) (rmv 1 20) (Pw D (tyL g) (wC g a M) [.ref (a 2), .ref (a (9 + k)), .int x2]) (WvQ D (wC g a M') (inA a 41)) 0 0 (inA a 41) := by
  unfold f_X3_lay at hf
  refine met_inW (A := (inA a 41)) (by decide) (Nat.le_of_ble_eq_true rfl) ?_
  intro p e s m args below meth c ls H locs C hP hS hl
  have C : Cx p s m args meth c cX3_lay 7 none RX3 D (tyL g) := C
  obtain ⟨hx, hb, hr, hml, hown, ht, hlocks, hK, hN⟩ := id C
  have hl : lv_has ls 7 [(0, .ref (a 2)), (1, .ref (a (9 + k))), (2, .int x2)] := hl
  refine lv_aload_n hx hb dX3_lay_0 rfl (lv_at hl 0 rfl) ?_
  refine lv_aload_n hx hb dX3_lay_1 rfl (lv_at hl 1 rfl) ?_
  refine fg_X3_46 hk C hP dX3_lay_2 ?_
  refine lv_iload_n hx hb dX3_lay_5 rfl (lv_at hl 2 rfl) ?_
  refine lv_iconst (v := 1) hx hb dX3_lay_6 (by decide) ?_
  refine lv_iadd hx hb dX3_lay_7 ?_
  obtain ⟨h_1, hf⟩ := ifs hf
  refine va_iald hx hb hK hP (13 + k) 0 (aC_T g a M hk) rfl h_1 dX3_lay_8 ?_
  refine lv_bipush (v := 48) hx hb dX3_lay_9 (by decide) ?_
  refine lv_isub hx hb dX3_lay_11 ?_
  refine fp_X3_69 C hP (wC_D hJ) hS dX3_lay_12 (fun H locs hP hS => ?_)
  obtain ⟨M2, eM2, hf⟩ := nms hf
  have hP : va_P D clL (wC g a M2) H := by rw [eM2]; exact hP
  refine lv_aload_n hx hb dX3_lay_15 rfl (lv_at hl 0 rfl) ?_
  refine lv_aload_n hx hb dX3_lay_16 rfl (lv_at hl 1 rfl) ?_
  refine fg_X3_46 hk C hP dX3_lay_17 ?_
  refine lv_iload_n hx hb dX3_lay_20 rfl (lv_at hl 2 rfl) ?_
  refine lv_iconst (v := 2) hx hb dX3_lay_21 (by decide) ?_
  refine lv_iadd hx hb dX3_lay_22 ?_
  obtain ⟨h_3, hf⟩ := ifs hf
  refine va_iald hx hb hK hP (13 + k) 0 (aC_T g a M2 hk) rfl h_3 dX3_lay_23 ?_
  refine lv_bipush (v := 48) hx hb dX3_lay_24 (by decide) ?_
  refine lv_isub hx hb dX3_lay_26 ?_
  refine fp_X3_73 C hP (wC_D hJ) hS dX3_lay_27 (fun H locs hP hS => ?_)
  obtain ⟨M4, eM4, hf⟩ := nms hf
  have hP : va_P D clL (wC g a M4) H := by rw [eM4]; exact hP
  refine lv_iload_n hx hb dX3_lay_30 rfl (lv_at hl 2 rfl) ?_
  refine lv_iconst (v := 3) hx hb dX3_lay_31 (by decide) ?_
  refine lv_iadd hx hb dX3_lay_32 ?_
  refine lv_topi (fun z5 ez5 => ?_)
  have hf := nmr ez5 hf
  refine lv_istore_n (lv' := [(3, .int z5), (0, .ref (a 2)), (1, .ref (a (9 + k))), (2, .int x2)]) hx hb dX3_lay_33 rfl hl (by decide) rfl (fun ls hl => ?_)
  refine lv_iconst (v := 0) hx hb dX3_lay_34 (by decide) ?_
  refine lv_istore (lv' := [(4, .int 0), (3, .int z5), (0, .ref (a 2)), (1, .ref (a (9 + k))), (2, .int x2)]) hx hb dX3_lay_35 hl (by decide) rfl (fun ls hl => ?_)
  refine lv_iconst (v := 0) hx hb dX3_lay_37 (by decide) ?_
  refine lv_istore (lv' := [(5, .int 0), (4, .int 0), (3, .int z5), (0, .ref (a 2)), (1, .ref (a (9 + k))), (2, .int x2)]) hx hb dX3_lay_38 hl (by decide) rfl (fun ls hl => ?_)
  exact w_X3_lay_l40 C hJ N hk M' N M4 z5 0 0 H locs hP hS ls (lv_sub hl [3, 4, 2, 1, 0] rfl) hf
set_option maxHeartbeats 4000000 in
set_option maxRecDepth 100000 in
theorem c_X3_stones (l : Launch) (D : va_G) (g : Nat → ClassId) (a : Nat → Nat) (M : Mem) (r : Int32) (hf : f_X3_stones M = some r) : Met l yX3_stones (cW yX3_stones cX3_stones 1 (some .int)) (rmv 0 0) (Pw D (tyL g) (wC g a M) [.ref (a 2)]) (RdQ (.int r)) 0 0 nof := by
  unfold f_X3_stones at hf
  refine met_in (by decide) (Nat.le_of_ble_eq_true rfl) ?_
  intro p e s m args below meth c ls C hP hl
  have C : Cx p s m args meth c cX3_stones 1 (some .int) RX3 D (tyL g) := C
  obtain ⟨hx, hb, hr, hml, hown, ht, hlocks, hK, hN⟩ := id C
  have hl : lv_has ls 1 [(0, .ref (a 2))] := hl
  refine lv_aload_n hx hb dX3_stones_0 rfl (lv_at hl 0 rfl) ?_
  refine fg_X3_69 C hP dX3_stones_1 ?_
  refine lv_aload_n hx hb dX3_stones_4 rfl (lv_at hl 0 rfl) ?_
  refine fg_X3_73 C hP dX3_stones_5 ?_
  refine lv_imul hx hb dX3_stones_8 ?_
  obtain rfl := Option.some.inj hf
  exact retR C dX3_stones_9
set_option maxHeartbeats 4000000 in
set_option maxRecDepth 100000 in
theorem c_X3_has (l : Launch) (D : va_G) (g : Nat → ClassId) (a : Nat → Nat) (M : Mem) (x1 : Int32) (r : Int32) (hf : f_X3_has M x1 = some r) : Met l yX3_has (cW yX3_has cX3_has 2 (some .boolean)) (rmv 0 0) (Pw D (tyL g) (wC g a M) [.ref (a 2), .int x1]) (RdQ (.int r)) 0 0 nof := by
  unfold f_X3_has at hf
  refine met_in (by decide) (Nat.le_of_ble_eq_true rfl) ?_
  intro p e s m args below meth c ls C hP hl
  have C : Cx p s m args meth c cX3_has 2 (some .boolean) RX3 D (tyL g) := C
  obtain ⟨hx, hb, hr, hml, hown, ht, hlocks, hK, hN⟩ := id C
  have hl : lv_has ls 2 [(0, .ref (a 2)), (1, .int x1)] := hl
  refine lv_iload_n hx hb dX3_has_0 rfl (lv_at hl 1 rfl) ?_
  refine lv_if_lt (tgt := 21) hx hb dX3_has_1 (by decide) (fun c_1 => ?_) (fun c_1 => ?_)
  · have hf := ifp c_1 hf
    refine lv_iconst (v := 0) hx hb dX3_has_21 (by decide) ?_
    obtain rfl := Option.some.inj hf
    exact retRz C (Or.inl rfl) dX3_has_22
  · have hf := ifn c_1 hf
    refine lv_iload_n hx hb dX3_has_4 rfl (lv_at hl 1 rfl) ?_
    refine lv_aload_n hx hb dX3_has_5 rfl (lv_at hl 0 rfl) ?_
    refine fg_X3_69 C hP dX3_has_6 ?_
    refine lv_aload_n hx hb dX3_has_9 rfl (lv_at hl 0 rfl) ?_
    refine fg_X3_73 C hP dX3_has_10 ?_
    refine lv_imul hx hb dX3_has_13 ?_
    refine lv_icmp_ge (tgt := 21) hx hb dX3_has_14 (by decide) (fun c_2 => ?_) (fun c_2 => ?_)
    · have hf := ifp c_2 hf
      refine lv_iconst (v := 0) hx hb dX3_has_21 (by decide) ?_
      obtain rfl := Option.some.inj hf
      exact retRz C (Or.inl rfl) dX3_has_22
    · have hf := ifn c_2 hf
      refine lv_iconst (v := 1) hx hb dX3_has_17 (by decide) ?_
      refine lv_goto (tgt := 22) hx hb dX3_has_18 (by decide) ?_
      obtain rfl := Option.some.inj hf
      exact retRz C (Or.inr rfl) dX3_has_22
set_option maxHeartbeats 4000000 in
set_option maxRecDepth 100000 in
theorem c_X3_isBare (l : Launch) (D : va_G) (g : Nat → ClassId) (a : Nat → Nat) (M : Mem) (r : Int32) (hf : f_X3_isBare M = some r) : Met l yX3_isBare (cW yX3_isBare cX3_isBare 1 (some .boolean)) (rmv 0 0) (Pw D (tyL g) (wC g a M) [.ref (a 2)]) (RdQ (.int r)) 0 0 nof := by
  unfold f_X3_isBare at hf
  refine met_in (by decide) (Nat.le_of_ble_eq_true rfl) ?_
  intro p e s m args below meth c ls C hP hl
  have C : Cx p s m args meth c cX3_isBare 1 (some .boolean) RX3 D (tyL g) := C
  obtain ⟨hx, hb, hr, hml, hown, ht, hlocks, hK, hN⟩ := id C
  have hl : lv_has ls 1 [(0, .ref (a 2))] := hl
  refine lv_aload_n hx hb dX3_isBare_0 rfl (lv_at hl 0 rfl) ?_
  refine fg_X3_73 C hP dX3_isBare_1 ?_
  refine lv_if_ne (tgt := 11) hx hb dX3_isBare_4 (by decide) (fun c_1 => ?_) (fun c_1 => ?_)
  · have hf := ifn c_1 hf
    refine lv_iconst (v := 0) hx hb dX3_isBare_11 (by decide) ?_
    obtain rfl := Option.some.inj hf
    exact retRz C (Or.inl rfl) dX3_isBare_12
  · have hf := ifp c_1 hf
    refine lv_iconst (v := 1) hx hb dX3_isBare_7 (by decide) ?_
    refine lv_goto (tgt := 12) hx hb dX3_isBare_8 (by decide) ?_
    obtain rfl := Option.some.inj hf
    exact retRz C (Or.inr rfl) dX3_isBare_12
set_option maxHeartbeats 4000000 in
set_option maxRecDepth 100000 in
theorem c_X3_heightAs (l : Launch) (D : va_G) (g : Nat → ClassId) (a : Nat → Nat) (M : Mem) (x1 : Int32) (x2 : Int32) (x3 : Int32) (r : Int32) (hf : f_X3_heightAs M x1 x2 x3 = some r) : Met l yX3_heightAs (cW yX3_heightAs cX3_heightAs 4 (some .int)) (rmv 2 44) (Pw D (tyL g) (wC g a M) [.ref (a 2), .int x1, .int x2, .int x3]) (RdQ (.int r)) 0 0 nof := by
  unfold f_X3_heightAs at hf
  refine met_in (by decide) (Nat.le_of_ble_eq_true rfl) ?_
  intro p e s m args below meth c ls C hP hl
  have C : Cx p s m args meth c cX3_heightAs 4 (some .int) RX3 D (tyL g) := C
  obtain ⟨hx, hb, hr, hml, hown, ht, hlocks, hK, hN⟩ := id C
  have hl : lv_has ls 4 [(0, .ref (a 2)), (1, .int x1), (2, .int x2), (3, .int x3)] := hl
  refine lv_bipush (v := 10) hx hb dX3_heightAs_0 (by decide) ?_
  refine lv_aload_n hx hb dX3_heightAs_2 rfl (lv_at hl 0 rfl) ?_
  refine fg_X3_28 C hP dX3_heightAs_3 ?_
  refine lv_iload_n hx hb dX3_heightAs_6 rfl (lv_at hl 2 rfl) ?_
  obtain ⟨h_1, hf⟩ := ifs hf
  refine va_iald hx hb hK hP 22 0 (aC_22 g a M) rfl h_1 dX3_heightAs_7 ?_
  refine lv_imul hx hb dX3_heightAs_8 ?_
  refine lv_aload_n hx hb dX3_heightAs_9 rfl (lv_at hl 0 rfl) ?_
  refine fg_X3_31 C hP dX3_heightAs_10 ?_
  refine lv_iload_n hx hb dX3_heightAs_13 rfl (lv_at hl 2 rfl) ?_
  refine va_iald hx hb hK hP 23 0 (aC_23 g a M) rfl h_1 dX3_heightAs_14 ?_
  refine lv_iadd hx hb dX3_heightAs_15 ?_
  refine lv_aload_n hx hb dX3_heightAs_16 rfl (lv_at hl 0 rfl) ?_
  refine fg_X3_18 C hP dX3_heightAs_17 ?_
  refine lv_iload_n hx hb dX3_heightAs_20 rfl (lv_at hl 1 rfl) ?_
  obtain ⟨h_2, hf⟩ := ifs hf
  refine va_aldq hx hb hK hP 17 3 (aC_17 g a M) rfl h_2 dX3_heightAs_21 ?_
  refine W.eq (g2 := F0 m 22 ls (.ref (a (18 + (x1.toNatClampNeg))) :: [.int ((10 * (M 22 x2.toNatClampNeg)) + (M 23 x2.toNatClampNeg))])) rfl ?_
  refine lv_aload_n hx hb dX3_heightAs_22 rfl (lv_at hl 0 rfl) ?_
  refine fg_X3_40 C hP dX3_heightAs_23 ?_
  refine lv_iload_n hx hb dX3_heightAs_26 rfl (lv_at hl 3 rfl) ?_
  obtain ⟨h_3, hf⟩ := ifs hf
  refine va_iald hx hb hK hP 26 0 (aC_26 g a M) rfl h_3 dX3_heightAs_27 ?_
  refine lv_aload_n hx hb dX3_heightAs_28 rfl (lv_at hl 0 rfl) ?_
  refine fg_X3_43 C hP dX3_heightAs_29 ?_
  refine lv_iload_n hx hb dX3_heightAs_32 rfl (lv_at hl 3 rfl) ?_
  refine va_iald hx hb hK hP 27 0 (aC_27 g a M) rfl h_3 dX3_heightAs_33 ?_
  by_cases c_4 : x1.toNatClampNeg = 0
  · have hf := ifp c_4 hf
    rw [c_4]
    obtain ⟨r5, e_5, hf⟩ := bns hf
    refine kR (rU_89_X3_X7_swell_0 (rest := [.int ((10 * (M 22 x2.toNatClampNeg)) + (M 23 x2.toNatClampNeg))]) C (c_X7_swell_0 l D g a M (M 26 x3.toNatClampNeg) (M 27 x3.toNatClampNeg) r5 e_5) hP ⟨rfl, rfl, Nat.le_of_ble_eq_true rfl, Nat.le_of_ble_eq_true rfl⟩ rfl hl.1 rfl (Nat.le_of_ble_eq_true rfl) dX3_heightAs_34 ⟨Nat.le_of_ble_eq_true rfl, Nat.le_of_ble_eq_true rfl⟩) ?_
    refine lv_iadd hx hb dX3_heightAs_37 ?_
    obtain rfl := Option.some.inj hf
    exact retR C dX3_heightAs_38
  · have hf := ifn c_4 hf
    by_cases c_6 : x1.toNatClampNeg = 1
    · have hf := ifp c_6 hf
      rw [c_6]
      obtain ⟨r7, e_7, hf⟩ := bns hf
      refine kR (rU_89_X3_X0_swell_1 (rest := [.int ((10 * (M 22 x2.toNatClampNeg)) + (M 23 x2.toNatClampNeg))]) C (c_X0_swell_1 l D g a M (M 26 x3.toNatClampNeg) (M 27 x3.toNatClampNeg) r7 e_7) hP ⟨rfl, rfl, Nat.le_of_ble_eq_true rfl, Nat.le_of_ble_eq_true rfl⟩ rfl hl.1 rfl (Nat.le_of_ble_eq_true rfl) dX3_heightAs_34 ⟨Nat.le_of_ble_eq_true rfl, Nat.le_of_ble_eq_true rfl⟩) ?_
      refine lv_iadd hx hb dX3_heightAs_37 ?_
      obtain rfl := Option.some.inj hf
      exact retR C dX3_heightAs_38
    · have hf := ifn c_6 hf
      by_cases c_8 : x1.toNatClampNeg = 2
      · have hf := ifp c_8 hf
        rw [c_8]
        obtain ⟨r9, e_9, hf⟩ := bns hf
        refine kR (rU_89_X3_X1_swell_2 (rest := [.int ((10 * (M 22 x2.toNatClampNeg)) + (M 23 x2.toNatClampNeg))]) C (c_X1_swell_2 l D g a M (M 26 x3.toNatClampNeg) (M 27 x3.toNatClampNeg) r9 e_9) hP ⟨rfl, rfl, Nat.le_of_ble_eq_true rfl, Nat.le_of_ble_eq_true rfl⟩ rfl hl.1 rfl (Nat.le_of_ble_eq_true rfl) dX3_heightAs_34 ⟨Nat.le_of_ble_eq_true rfl, Nat.le_of_ble_eq_true rfl⟩) ?_
        refine lv_iadd hx hb dX3_heightAs_37 ?_
        obtain rfl := Option.some.inj hf
        exact retR C dX3_heightAs_38
      · have hf := ifn c_8 hf
        exact nos hf
set_option maxHeartbeats 4000000 in
set_option maxRecDepth 100000 in
theorem c_X3_heightOf (l : Launch) (D : va_G) (g : Nat → ClassId) (a : Nat → Nat) (M : Mem) (x1 : Int32) (x2 : Int32) (r : Int32) (hf : f_X3_heightOf M x1 x2 = some r) : Met l yX3_heightOf (cW yX3_heightOf cX3_heightOf 3 (some .int)) (rmv 3 67) (Pw D (tyL g) (wC g a M) [.ref (a 2), .int x1, .int x2]) (RdQ (.int r)) 0 0 nof := by
  unfold f_X3_heightOf at hf
  refine met_in (by decide) (Nat.le_of_ble_eq_true rfl) ?_
  intro p e s m args below meth c ls C hP hl
  have C : Cx p s m args meth c cX3_heightOf 3 (some .int) RX3 D (tyL g) := C
  obtain ⟨hx, hb, hr, hml, hown, ht, hlocks, hK, hN⟩ := id C
  have hl : lv_has ls 3 [(0, .ref (a 2)), (1, .int x1), (2, .int x2)] := hl
  refine lv_aload_n hx hb dX3_heightOf_0 rfl (lv_at hl 0 rfl) ?_
  refine lv_aload_n hx hb dX3_heightOf_1 rfl (lv_at hl 0 rfl) ?_
  refine fg_X3_24 C hP dX3_heightOf_2 ?_
  refine lv_iload_n hx hb dX3_heightOf_5 rfl (lv_at hl 1 rfl) ?_
  obtain ⟨h_1, hf⟩ := ifs hf
  refine va_iald hx hb hK hP 21 0 (aC_21 g a M) rfl h_1 dX3_heightOf_6 ?_
  refine lv_iload_n hx hb dX3_heightOf_7 rfl (lv_at hl 1 rfl) ?_
  refine lv_iload_n hx hb dX3_heightOf_8 rfl (lv_at hl 2 rfl) ?_
  obtain ⟨r2, e_2, hf⟩ := bns hf
  refine kR (rV (rest := []) C (c_X3_heightAs l D g a M (M 21 x1.toNatClampNeg) x1 x2 r2 e_2) ok_X3_heightAs wd_346 hP 2 (aC_2 g a M) rfl ⟨rfl, rfl, Nat.le_of_ble_eq_true rfl, Nat.le_of_ble_eq_true rfl⟩ rfl hl.1 rfl (Nat.le_of_ble_eq_true rfl) dX3_heightOf_9 ⟨Nat.le_of_ble_eq_true rfl, Nat.le_of_ble_eq_true rfl⟩) ?_
  obtain rfl := Option.some.inj hf
  exact retR C dX3_heightOf_12
set_option maxHeartbeats 4000000 in
set_option maxRecDepth 100000 in
theorem w_X3_highestMonth_l4 {p : Program} {l : Launch} {e : Env} {s : State} {m : MethodId} {args : Array Value} {below : List Frame} {meth : Method} {c : Code} {D : va_G} {g : Nat → ClassId} {a : Nat → Nat} (C : Cx p s m args meth c cX3_highestMonth 4 (some .int) RX3 D (tyL g)) (N : Nat) (M : Mem) (hP : va_P D clL (wC g a M) s.heap) (x1 : Int32) (r : Int32) :
    ∀ (n : Nat) (x2 : Int32) (x3 : Int32), ∀ (ls : Array Slot), lv_has ls 4 [(0, .ref (a 2)), (1, .int x1), (2, .int x2), (3, .int x3)] → f_X3_highestMonth_l4 N M x1 n x2 x3 = some r → W p l e (rmv 4 89) s m args below meth c s.heap [] 0 0 (MQ below (RdQ (.int r)) args s 0 0 nof) (F0 m 4 ls []) := by
  obtain ⟨hx, hb, hr, hml, hown, ht, hlocks, hK, hN⟩ := id C
  intro n
  induction n with
  | zero =>
    intro x2 x3 ls hl hf
    exact nos hf
  | succ n ih =>
    intro x2 x3 ls hl hf
    rw [f_X3_highestMonth_l4] at hf
    refine lv_iload_n hx hb dX3_highestMonth_4 rfl (lv_at hl 3 rfl) ?_
    refine lv_bipush (v := 12) hx hb dX3_highestMonth_5 (by decide) ?_
    refine lv_icmp_ge (tgt := 33) hx hb dX3_highestMonth_7 (by decide) (fun c_1 => ?_) (fun c_1 => ?_)
    · have hf := ifp c_1 hf
      refine lv_iload_n hx hb dX3_highestMonth_33 rfl (lv_at hl 2 rfl) ?_
      obtain rfl := Option.some.inj hf
      exact retR C dX3_highestMonth_34
    · have hf := ifn c_1 hf
      refine lv_aload_n hx hb dX3_highestMonth_10 rfl (lv_at hl 0 rfl) ?_
      refine lv_iload_n hx hb dX3_highestMonth_11 rfl (lv_at hl 1 rfl) ?_
      refine lv_iload_n hx hb dX3_highestMonth_12 rfl (lv_at hl 3 rfl) ?_
      obtain ⟨r2, e_2, hf⟩ := bns hf
      refine kR (rV (rest := []) C (c_X3_heightOf l D g a M x1 x3 r2 e_2) ok_X3_heightOf wd_370 hP 2 (aC_2 g a M) rfl ⟨rfl, rfl, Nat.le_of_ble_eq_true rfl, Nat.le_of_ble_eq_true rfl⟩ rfl hl.1 rfl (Nat.le_of_ble_eq_true rfl) dX3_highestMonth_13 ⟨Nat.le_of_ble_eq_true rfl, Nat.le_of_ble_eq_true rfl⟩) ?_
      refine lv_aload_n hx hb dX3_highestMonth_16 rfl (lv_at hl 0 rfl) ?_
      refine lv_iload_n hx hb dX3_highestMonth_17 rfl (lv_at hl 1 rfl) ?_
      refine lv_iload_n hx hb dX3_highestMonth_18 rfl (lv_at hl 2 rfl) ?_
      obtain ⟨r3, e_3, hf⟩ := bns hf
      refine kR (rV (rest := [.int r2]) C (c_X3_heightOf l D g a M x1 x2 r3 e_3) ok_X3_heightOf wd_370 hP 2 (aC_2 g a M) rfl ⟨rfl, rfl, Nat.le_of_ble_eq_true rfl, Nat.le_of_ble_eq_true rfl⟩ rfl hl.1 rfl (Nat.le_of_ble_eq_true rfl) dX3_highestMonth_19 ⟨Nat.le_of_ble_eq_true rfl, Nat.le_of_ble_eq_true rfl⟩) ?_
      refine lv_icmp_le (tgt := 27) hx hb dX3_highestMonth_22 (by decide) (fun c_4 => ?_) (fun c_4 => ?_)
      · have hf := ifp c_4 hf
        refine lv_iinc (v := (x3 + 1)) (lv' := [(3, .int (x3 + 1)), (0, .ref (a 2)), (1, .int x1), (2, .int x2)]) hx hb dX3_highestMonth_27 hl (k := 3) rfl rfl (by decide) rfl (fun ls hl => ?_)
        refine lv_goto (tgt := 4) hx hb dX3_highestMonth_30 (by decide) ?_
        exact ih x2 (x3 + 1) ls (lv_sub hl [1, 2, 3, 0] rfl) hf
      · have hf := ifn c_4 hf
        refine lv_iload_n hx hb dX3_highestMonth_25 rfl (lv_at hl 3 rfl) ?_
        refine lv_istore_n (lv' := [(2, .int x3), (0, .ref (a 2)), (1, .int x1), (3, .int x3)]) hx hb dX3_highestMonth_26 rfl hl (by decide) rfl (fun ls hl => ?_)
        refine lv_iinc (v := (x3 + 1)) (lv' := [(3, .int (x3 + 1)), (2, .int x3), (0, .ref (a 2)), (1, .int x1)]) hx hb dX3_highestMonth_27 hl (k := 3) rfl rfl (by decide) rfl (fun ls hl => ?_)
        refine lv_goto (tgt := 4) hx hb dX3_highestMonth_30 (by decide) ?_
        exact ih x3 (x3 + 1) ls (lv_sub hl [2, 3, 1, 0] rfl) hf
set_option maxHeartbeats 4000000 in
set_option maxRecDepth 100000 in
theorem c_X3_highestMonth (l : Launch) (D : va_G) (g : Nat → ClassId) (a : Nat → Nat) (N : Nat) (M : Mem) (x1 : Int32) (r : Int32) (hf : f_X3_highestMonth N M x1 = some r) : Met l yX3_highestMonth (cW yX3_highestMonth cX3_highestMonth 4 (some .int)) (rmv 4 89) (Pw D (tyL g) (wC g a M) [.ref (a 2), .int x1]) (RdQ (.int r)) 0 0 nof := by
  unfold f_X3_highestMonth at hf
  refine met_in (by decide) (Nat.le_of_ble_eq_true rfl) ?_
  intro p e s m args below meth c ls C hP hl
  have C : Cx p s m args meth c cX3_highestMonth 4 (some .int) RX3 D (tyL g) := C
  obtain ⟨hx, hb, hr, hml, hown, ht, hlocks, hK, hN⟩ := id C
  have hl : lv_has ls 4 [(0, .ref (a 2)), (1, .int x1)] := hl
  refine lv_iconst (v := 0) hx hb dX3_highestMonth_0 (by decide) ?_
  refine lv_istore_n (lv' := [(2, .int 0), (0, .ref (a 2)), (1, .int x1)]) hx hb dX3_highestMonth_1 rfl hl (by decide) rfl (fun ls hl => ?_)
  refine lv_iconst (v := 1) hx hb dX3_highestMonth_2 (by decide) ?_
  refine lv_istore_n (lv' := [(3, .int 1), (2, .int 0), (0, .ref (a 2)), (1, .int x1)]) hx hb dX3_highestMonth_3 rfl hl (by decide) rfl (fun ls hl => ?_)
  exact w_X3_highestMonth_l4 C N M hP x1 r N 0 1 ls (lv_sub hl [2, 3, 1, 0] rfl) hf
set_option maxHeartbeats 4000000 in
set_option maxRecDepth 100000 in
theorem w_X3_lowestMonth_l4 {p : Program} {l : Launch} {e : Env} {s : State} {m : MethodId} {args : Array Value} {below : List Frame} {meth : Method} {c : Code} {D : va_G} {g : Nat → ClassId} {a : Nat → Nat} (C : Cx p s m args meth c cX3_lowestMonth 4 (some .int) RX3 D (tyL g)) (N : Nat) (M : Mem) (hP : va_P D clL (wC g a M) s.heap) (x1 : Int32) (r : Int32) :
    ∀ (n : Nat) (x2 : Int32) (x3 : Int32), ∀ (ls : Array Slot), lv_has ls 4 [(0, .ref (a 2)), (1, .int x1), (2, .int x2), (3, .int x3)] → f_X3_lowestMonth_l4 N M x1 n x2 x3 = some r → W p l e (rmv 4 89) s m args below meth c s.heap [] 0 0 (MQ below (RdQ (.int r)) args s 0 0 nof) (F0 m 4 ls []) := by
  obtain ⟨hx, hb, hr, hml, hown, ht, hlocks, hK, hN⟩ := id C
  intro n
  induction n with
  | zero =>
    intro x2 x3 ls hl hf
    exact nos hf
  | succ n ih =>
    intro x2 x3 ls hl hf
    rw [f_X3_lowestMonth_l4] at hf
    refine lv_iload_n hx hb dX3_lowestMonth_4 rfl (lv_at hl 3 rfl) ?_
    refine lv_bipush (v := 12) hx hb dX3_lowestMonth_5 (by decide) ?_
    refine lv_icmp_ge (tgt := 33) hx hb dX3_lowestMonth_7 (by decide) (fun c_1 => ?_) (fun c_1 => ?_)
    · have hf := ifp c_1 hf
      refine lv_iload_n hx hb dX3_lowestMonth_33 rfl (lv_at hl 2 rfl) ?_
      obtain rfl := Option.some.inj hf
      exact retR C dX3_lowestMonth_34
    · have hf := ifn c_1 hf
      refine lv_aload_n hx hb dX3_lowestMonth_10 rfl (lv_at hl 0 rfl) ?_
      refine lv_iload_n hx hb dX3_lowestMonth_11 rfl (lv_at hl 1 rfl) ?_
      refine lv_iload_n hx hb dX3_lowestMonth_12 rfl (lv_at hl 3 rfl) ?_
      obtain ⟨r2, e_2, hf⟩ := bns hf
      refine kR (rV (rest := []) C (c_X3_heightOf l D g a M x1 x3 r2 e_2) ok_X3_heightOf wd_370 hP 2 (aC_2 g a M) rfl ⟨rfl, rfl, Nat.le_of_ble_eq_true rfl, Nat.le_of_ble_eq_true rfl⟩ rfl hl.1 rfl (Nat.le_of_ble_eq_true rfl) dX3_lowestMonth_13 ⟨Nat.le_of_ble_eq_true rfl, Nat.le_of_ble_eq_true rfl⟩) ?_
      refine lv_aload_n hx hb dX3_lowestMonth_16 rfl (lv_at hl 0 rfl) ?_
      refine lv_iload_n hx hb dX3_lowestMonth_17 rfl (lv_at hl 1 rfl) ?_
      refine lv_iload_n hx hb dX3_lowestMonth_18 rfl (lv_at hl 2 rfl) ?_
      obtain ⟨r3, e_3, hf⟩ := bns hf
      refine kR (rV (rest := [.int r2]) C (c_X3_heightOf l D g a M x1 x2 r3 e_3) ok_X3_heightOf wd_370 hP 2 (aC_2 g a M) rfl ⟨rfl, rfl, Nat.le_of_ble_eq_true rfl, Nat.le_of_ble_eq_true rfl⟩ rfl hl.1 rfl (Nat.le_of_ble_eq_true rfl) dX3_lowestMonth_19 ⟨Nat.le_of_ble_eq_true rfl, Nat.le_of_ble_eq_true rfl⟩) ?_
      refine lv_icmp_ge (tgt := 27) hx hb dX3_lowestMonth_22 (by decide) (fun c_4 => ?_) (fun c_4 => ?_)
      · have hf := ifp c_4 hf
        refine lv_iinc (v := (x3 + 1)) (lv' := [(3, .int (x3 + 1)), (0, .ref (a 2)), (1, .int x1), (2, .int x2)]) hx hb dX3_lowestMonth_27 hl (k := 3) rfl rfl (by decide) rfl (fun ls hl => ?_)
        refine lv_goto (tgt := 4) hx hb dX3_lowestMonth_30 (by decide) ?_
        exact ih x2 (x3 + 1) ls (lv_sub hl [1, 2, 3, 0] rfl) hf
      · have hf := ifn c_4 hf
        refine lv_iload_n hx hb dX3_lowestMonth_25 rfl (lv_at hl 3 rfl) ?_
        refine lv_istore_n (lv' := [(2, .int x3), (0, .ref (a 2)), (1, .int x1), (3, .int x3)]) hx hb dX3_lowestMonth_26 rfl hl (by decide) rfl (fun ls hl => ?_)
        refine lv_iinc (v := (x3 + 1)) (lv' := [(3, .int (x3 + 1)), (2, .int x3), (0, .ref (a 2)), (1, .int x1)]) hx hb dX3_lowestMonth_27 hl (k := 3) rfl rfl (by decide) rfl (fun ls hl => ?_)
        refine lv_goto (tgt := 4) hx hb dX3_lowestMonth_30 (by decide) ?_
        exact ih x3 (x3 + 1) ls (lv_sub hl [2, 3, 1, 0] rfl) hf
set_option maxHeartbeats 4000000 in
set_option maxRecDepth 100000 in
theorem c_X3_lowestMonth (l : Launch) (D : va_G) (g : Nat → ClassId) (a : Nat → Nat) (N : Nat) (M : Mem) (x1 : Int32) (r : Int32) (hf : f_X3_lowestMonth N M x1 = some r) : Met l yX3_lowestMonth (cW yX3_lowestMonth cX3_lowestMonth 4 (some .int)) (rmv 4 89) (Pw D (tyL g) (wC g a M) [.ref (a 2), .int x1]) (RdQ (.int r)) 0 0 nof := by
  unfold f_X3_lowestMonth at hf
  refine met_in (by decide) (Nat.le_of_ble_eq_true rfl) ?_
  intro p e s m args below meth c ls C hP hl
  have C : Cx p s m args meth c cX3_lowestMonth 4 (some .int) RX3 D (tyL g) := C
  obtain ⟨hx, hb, hr, hml, hown, ht, hlocks, hK, hN⟩ := id C
  have hl : lv_has ls 4 [(0, .ref (a 2)), (1, .int x1)] := hl
  refine lv_iconst (v := 0) hx hb dX3_lowestMonth_0 (by decide) ?_
  refine lv_istore_n (lv' := [(2, .int 0), (0, .ref (a 2)), (1, .int x1)]) hx hb dX3_lowestMonth_1 rfl hl (by decide) rfl (fun ls hl => ?_)
  refine lv_iconst (v := 1) hx hb dX3_lowestMonth_2 (by decide) ?_
  refine lv_istore_n (lv' := [(3, .int 1), (2, .int 0), (0, .ref (a 2)), (1, .int x1)]) hx hb dX3_lowestMonth_3 rfl hl (by decide) rfl (fun ls hl => ?_)
  exact w_X3_lowestMonth_l4 C N M hP x1 r N 0 1 ls (lv_sub hl [2, 3, 1, 0] rfl) hf
set_option maxHeartbeats 4000000 in
set_option maxRecDepth 100000 in
theorem w_X3_writeHeights_l2 {p : Program} {l : Launch} {e : Env} {s : State} {m : MethodId} {args : Array Value} {below : List Frame} {meth : Method} {c : Code} {D : va_G} {g : Nat → ClassId} {a : Nat → Nat} (C : Cx p s m args meth c cX3_writeHeights 4 none RX3 D (tyL g)) (hJ : Inj a 41) (N : Nat) {q : Nat} (hq : isH q) (x1 : Int32) (M' : Mem) :
    ∀ (n : Nat) (M : Mem) (x3 : Int32), ∀ (H : Heap) (locs : List Loc), va_P D clL (wC g a M) H → va_S (inA a 41) s.heap H locs → ∀ (ls : Array Slot), lv_has ls 4 [(0, .ref (a 2)), (1, .int x1), (2, .ref (a q)), (3, .int x3)] → f_X3_writeHeights_l2 N q x1 n M x3 = some M' → W p l e (rmv 4 89) s m args below meth c H locs 0 0 (MQ below (WvQ D (wC g a M') (inA a 41)) args s 0 0 (inA a 41)) (F0 m 2 ls []) := by
  obtain ⟨hx, hb, hr, hml, hown, ht, hlocks, hK, hN⟩ := id C
  intro n
  induction n with
  | zero =>
    intro M x3 H locs hP hS ls hl hf
    exact nos hf
  | succ n ih =>
    intro M x3 H locs hP hS ls hl hf
    rw [f_X3_writeHeights_l2] at hf
    refine lv_iload_n hx hb dX3_writeHeights_2 rfl (lv_at hl 3 rfl) ?_
    refine lv_aload_n hx hb dX3_writeHeights_3 rfl (lv_at hl 0 rfl) ?_
    obtain ⟨r1, e_1, hf⟩ := bns hf
    refine kR (rV (rest := [.int x3]) C (c_X3_stones l D g a M r1 e_1) ok_X3_stones wd_391 hP 2 (aC_2 g a M) rfl ⟨rfl, rfl, Nat.le_of_ble_eq_true rfl, Nat.le_of_ble_eq_true rfl⟩ rfl hl.1 rfl (Nat.le_of_ble_eq_true rfl) dX3_writeHeights_4 ⟨Nat.le_of_ble_eq_true rfl, Nat.le_of_ble_eq_true rfl⟩) ?_
    refine lv_icmp_ge (tgt := 25) hx hb dX3_writeHeights_7 (by decide) (fun c_2 => ?_) (fun c_2 => ?_)
    · have hf := ifp c_2 hf
      obtain rfl := Option.some.inj hf
      exact retWv C hP hS dX3_writeHeights_25
    · have hf := ifn c_2 hf
      refine lv_aload_n hx hb dX3_writeHeights_10 rfl (lv_at hl 2 rfl) ?_
      refine lv_iload_n hx hb dX3_writeHeights_11 rfl (lv_at hl 3 rfl) ?_
      refine lv_aload_n hx hb dX3_writeHeights_12 rfl (lv_at hl 0 rfl) ?_
      refine lv_iload_n hx hb dX3_writeHeights_13 rfl (lv_at hl 3 rfl) ?_
      refine lv_iload_n hx hb dX3_writeHeights_14 rfl (lv_at hl 1 rfl) ?_
      obtain ⟨r3, e_3, hf⟩ := bns hf
      refine kR (rV (rest := [.int x3, .ref (a q)]) C (c_X3_heightOf l D g a M x3 x1 r3 e_3) ok_X3_heightOf wd_370 hP 2 (aC_2 g a M) rfl ⟨rfl, rfl, Nat.le_of_ble_eq_true rfl, Nat.le_of_ble_eq_true rfl⟩ rfl hl.1 rfl (Nat.le_of_ble_eq_true rfl) dX3_writeHeights_15 ⟨Nat.le_of_ble_eq_true rfl, Nat.le_of_ble_eq_true rfl⟩) ?_
      obtain ⟨h_4, hf⟩ := ifs hf
      refine ast (wC g a) C hP (wC_D hJ) hS q 0 (aC_H g a M hq) rfl (sC_H g a M hq) h_4 dX3_writeHeights_18 (fun H locs hP hS => ?_)
      obtain ⟨M5, eM5, hf⟩ := nms hf
      have hP : va_P D clL (wC g a M5) H := by rw [eM5]; exact hP
      refine lv_iinc (v := (x3 + 1)) (lv' := [(3, .int (x3 + 1)), (0, .ref (a 2)), (1, .int x1), (2, .ref (a q))]) hx hb dX3_writeHeights_19 hl (k := 3) rfl rfl (by decide) rfl (fun ls hl => ?_)
      refine lv_goto (tgt := 2) hx hb dX3_writeHeights_22 (by decide) ?_
      exact ih M5 (x3 + 1) H locs hP hS ls (lv_sub hl [1, 2, 3, 0] rfl) hf
set_option maxHeartbeats 4000000 in
set_option maxRecDepth 100000 in
theorem c_X3_writeHeights (l : Launch) (D : va_G) (g : Nat → ClassId) (a : Nat → Nat) (hJ : Inj a 41) (N : Nat) (q : Nat) (hq : isH q) (M : Mem) (x1 : Int32) (M' : Mem) (hf : f_X3_writeHeights N q M x1 = some M') : Met l yX3_writeHeights (cW yX3_writeHeights cX3_writeHeights 4 none) (rmv 4 89) (Pw D (tyL g) (wC g a M) [.ref (a 2), .int x1, .ref (a q)]) (WvQ D (wC g a M') (inA a 41)) 0 0 (inA a 41) := by
  unfold f_X3_writeHeights at hf
  refine met_inW (A := (inA a 41)) (by decide) (Nat.le_of_ble_eq_true rfl) ?_
  intro p e s m args below meth c ls H locs C hP hS hl
  have C : Cx p s m args meth c cX3_writeHeights 4 none RX3 D (tyL g) := C
  obtain ⟨hx, hb, hr, hml, hown, ht, hlocks, hK, hN⟩ := id C
  have hl : lv_has ls 4 [(0, .ref (a 2)), (1, .int x1), (2, .ref (a q))] := hl
  refine lv_iconst (v := 0) hx hb dX3_writeHeights_0 (by decide) ?_
  refine lv_istore_n (lv' := [(3, .int 0), (0, .ref (a 2)), (1, .int x1), (2, .ref (a q))]) hx hb dX3_writeHeights_1 rfl hl (by decide) rfl (fun ls hl => ?_)
  exact w_X3_writeHeights_l2 C hJ N hq x1 M' N M 0 H locs hP hS ls (lv_sub hl [1, 2, 3, 0] rfl) hf
set_option maxHeartbeats 4000000 in
set_option maxRecDepth 100000 in
theorem c_X3_neighbour (l : Launch) (D : va_G) (g : Nat → ClassId) (a : Nat → Nat) (M : Mem) (x1 : Int32) (x2 : Int32) (r : Int32) (hf : f_X3_neighbour M x1 x2 = some r) : Met l yX3_neighbour (cW yX3_neighbour cX3_neighbour 3 (some .int)) (rmv 0 0) (Pw D (tyL g) (wC g a M) [.ref (a 2), .int x1, .int x2]) (RdQ (.int r)) 0 0 nof := by
  unfold f_X3_neighbour at hf
  refine met_in (by decide) (Nat.le_of_ble_eq_true rfl) ?_
  intro p e s m args below meth c ls C hP hl
  have C : Cx p s m args meth c cX3_neighbour 3 (some .int) RX3 D (tyL g) := C
  obtain ⟨hx, hb, hr, hml, hown, ht, hlocks, hK, hN⟩ := id C
  have hl : lv_has ls 3 [(0, .ref (a 2)), (1, .int x1), (2, .int x2)] := hl
  refine lv_iload_n hx hb dX3_neighbour_0 rfl (lv_at hl 2 rfl) ?_
  by_cases c_1 : x2 = 0
  · have hf := ifp c_1 hf
    refine lv_tableIn (tgt := 28) (off := 27) hx hb dX3_neighbour_1 (by rw [c_1]; decide) (by rw [c_1]; decide) (by rw [c_1]; rfl) (by decide) ?_
    refine lv_aload_n hx hb dX3_neighbour_28 rfl (lv_at hl 0 rfl) ?_
    refine fg_X3_34 C hP dX3_neighbour_29 ?_
    refine lv_iload_n hx hb dX3_neighbour_32 rfl (lv_at hl 1 rfl) ?_
    obtain ⟨h_2, hf⟩ := ifs hf
    refine va_iald hx hb hK hP 24 0 (aC_24 g a M) rfl h_2 dX3_neighbour_33 ?_
    refine lv_if_le (tgt := 46) hx hb dX3_neighbour_34 (by decide) (fun c_3 => ?_) (fun c_3 => ?_)
    · have hf := ifp c_3 hf
      refine lv_bipush (v := (-9)) hx hb dX3_neighbour_46 (by decide) ?_
      obtain rfl := Option.some.inj hf
      exact retR C dX3_neighbour_48
    · have hf := ifn c_3 hf
      refine lv_iload_n hx hb dX3_neighbour_37 rfl (lv_at hl 1 rfl) ?_
      refine lv_aload_n hx hb dX3_neighbour_38 rfl (lv_at hl 0 rfl) ?_
      refine fg_X3_73 C hP dX3_neighbour_39 ?_
      refine lv_isub hx hb dX3_neighbour_42 ?_
      refine lv_goto (tgt := 48) hx hb dX3_neighbour_43 (by decide) ?_
      obtain rfl := Option.some.inj hf
      exact retR C dX3_neighbour_48
  · have hf := ifn c_1 hf
    by_cases c_4 : x2 = 1
    · have hf := ifp c_4 hf
      refine lv_tableIn (tgt := 49) (off := 48) hx hb dX3_neighbour_1 (by rw [c_4]; decide) (by rw [c_4]; decide) (by rw [c_4]; rfl) (by decide) ?_
      refine lv_aload_n hx hb dX3_neighbour_49 rfl (lv_at hl 0 rfl) ?_
      refine fg_X3_37 C hP dX3_neighbour_50 ?_
      refine lv_iload_n hx hb dX3_neighbour_53 rfl (lv_at hl 1 rfl) ?_
      obtain ⟨h_5, hf⟩ := ifs hf
      refine va_iald hx hb hK hP 25 0 (aC_25 g a M) rfl h_5 dX3_neighbour_54 ?_
      refine lv_if_le (tgt := 64) hx hb dX3_neighbour_55 (by decide) (fun c_6 => ?_) (fun c_6 => ?_)
      · have hf := ifp c_6 hf
        refine lv_bipush (v := (-9)) hx hb dX3_neighbour_64 (by decide) ?_
        obtain rfl := Option.some.inj hf
        exact retR C dX3_neighbour_66
      · have hf := ifn c_6 hf
        refine lv_iload_n hx hb dX3_neighbour_58 rfl (lv_at hl 1 rfl) ?_
        refine lv_iconst (v := 1) hx hb dX3_neighbour_59 (by decide) ?_
        refine lv_isub hx hb dX3_neighbour_60 ?_
        refine lv_goto (tgt := 66) hx hb dX3_neighbour_61 (by decide) ?_
        obtain rfl := Option.some.inj hf
        exact retR C dX3_neighbour_66
    · have hf := ifn c_4 hf
      by_cases c_7 : x2 = 2
      · have hf := ifp c_7 hf
        refine lv_tableIn (tgt := 67) (off := 66) hx hb dX3_neighbour_1 (by rw [c_7]; decide) (by rw [c_7]; decide) (by rw [c_7]; rfl) (by decide) ?_
        refine lv_aload_n hx hb dX3_neighbour_67 rfl (lv_at hl 0 rfl) ?_
        refine fg_X3_37 C hP dX3_neighbour_68 ?_
        refine lv_iload_n hx hb dX3_neighbour_71 rfl (lv_at hl 1 rfl) ?_
        obtain ⟨h_8, hf⟩ := ifs hf
        refine va_iald hx hb hK hP 25 0 (aC_25 g a M) rfl h_8 dX3_neighbour_72 ?_
        refine lv_aload_n hx hb dX3_neighbour_73 rfl (lv_at hl 0 rfl) ?_
        refine fg_X3_73 C hP dX3_neighbour_74 ?_
        refine lv_iconst (v := 1) hx hb dX3_neighbour_77 (by decide) ?_
        refine lv_isub hx hb dX3_neighbour_78 ?_
        refine lv_icmp_ge (tgt := 88) hx hb dX3_neighbour_79 (by decide) (fun c_9 => ?_) (fun c_9 => ?_)
        · have hf := ifp c_9 hf
          refine lv_bipush (v := (-9)) hx hb dX3_neighbour_88 (by decide) ?_
          obtain rfl := Option.some.inj hf
          exact retR C dX3_neighbour_90
        · have hf := ifn c_9 hf
          refine lv_iload_n hx hb dX3_neighbour_82 rfl (lv_at hl 1 rfl) ?_
          refine lv_iconst (v := 1) hx hb dX3_neighbour_83 (by decide) ?_
          refine lv_iadd hx hb dX3_neighbour_84 ?_
          refine lv_goto (tgt := 90) hx hb dX3_neighbour_85 (by decide) ?_
          obtain rfl := Option.some.inj hf
          exact retR C dX3_neighbour_90
      · have hf := ifn c_7 hf
        refine lv_tableOut (tgt := 91) hx hb dX3_neighbour_1 (by have q0 : ¬ 0 = Int32.toInt x2 := fun e => i32ne c_1 e.symm; have q1 : ¬ 1 = Int32.toInt x2 := fun e => i32ne c_4 e.symm; have q2 : ¬ 2 = Int32.toInt x2 := fun e => i32ne c_7 e.symm; omega) (by decide) ?_
        refine lv_aload_n hx hb dX3_neighbour_91 rfl (lv_at hl 0 rfl) ?_
        refine fg_X3_34 C hP dX3_neighbour_92 ?_
        refine lv_iload_n hx hb dX3_neighbour_95 rfl (lv_at hl 1 rfl) ?_
        obtain ⟨h_10, hf⟩ := ifs hf
        refine va_iald hx hb hK hP 24 0 (aC_24 g a M) rfl h_10 dX3_neighbour_96 ?_
        refine lv_aload_n hx hb dX3_neighbour_97 rfl (lv_at hl 0 rfl) ?_
        refine fg_X3_69 C hP dX3_neighbour_98 ?_
        refine lv_iconst (v := 1) hx hb dX3_neighbour_101 (by decide) ?_
        refine lv_isub hx hb dX3_neighbour_102 ?_
        refine lv_icmp_ge (tgt := 115) hx hb dX3_neighbour_103 (by decide) (fun c_11 => ?_) (fun c_11 => ?_)
        · have hf := ifp c_11 hf
          refine lv_bipush (v := (-9)) hx hb dX3_neighbour_115 (by decide) ?_
          obtain rfl := Option.some.inj hf
          exact retR C dX3_neighbour_117
        · have hf := ifn c_11 hf
          refine lv_iload_n hx hb dX3_neighbour_106 rfl (lv_at hl 1 rfl) ?_
          refine lv_aload_n hx hb dX3_neighbour_107 rfl (lv_at hl 0 rfl) ?_
          refine fg_X3_73 C hP dX3_neighbour_108 ?_
          refine lv_iadd hx hb dX3_neighbour_111 ?_
          refine lv_goto (tgt := 117) hx hb dX3_neighbour_112 (by decide) ?_
          obtain rfl := Option.some.inj hf
          exact retR C dX3_neighbour_117
set_option maxHeartbeats 4000000 in
set_option maxRecDepth 100000 in
theorem c_X3_hasStall (l : Launch) (D : va_G) (g : Nat → ClassId) (a : Nat → Nat) (M : Mem) (x1 : Int32) (r : Int32) (hf : f_X3_hasStall M x1 = some r) : Met l yX3_hasStall (cW yX3_hasStall cX3_hasStall 2 (some .boolean)) (rmv 1 21) (Pw D (tyL g) (wC g a M) [.ref (a 2), .int x1]) (RdQ (.int r)) 0 0 nof := by
  unfold f_X3_hasStall at hf
  refine met_in (by decide) (Nat.le_of_ble_eq_true rfl) ?_
  intro p e s m args below meth c ls C hP hl
  have C : Cx p s m args meth c cX3_hasStall 2 (some .boolean) RX3 D (tyL g) := C
  obtain ⟨hx, hb, hr, hml, hown, ht, hlocks, hK, hN⟩ := id C
  have hl : lv_has ls 2 [(0, .ref (a 2)), (1, .int x1)] := hl
  refine lv_aload_n hx hb dX3_hasStall_0 rfl (lv_at hl 0 rfl) ?_
  refine lv_iload_n hx hb dX3_hasStall_1 rfl (lv_at hl 1 rfl) ?_
  obtain ⟨r1, e_1, hf⟩ := bns hf
  refine kR (rV (rest := []) C (c_X3_has l D g a M x1 r1 e_1) ok_X3_has wd_450 hP 2 (aC_2 g a M) rfl ⟨rfl, rfl, Nat.le_of_ble_eq_true rfl, Nat.le_of_ble_eq_true rfl⟩ rfl hl.1 rfl (Nat.le_of_ble_eq_true rfl) dX3_hasStall_2 ⟨Nat.le_of_ble_eq_true rfl, Nat.le_of_ble_eq_true rfl⟩) ?_
  refine lv_if_eq (tgt := 42) hx hb dX3_hasStall_5 (by decide) (fun c_2 => ?_) (fun c_2 => ?_)
  · have hf := ifp c_2 hf
    refine lv_iconst (v := 0) hx hb dX3_hasStall_42 (by decide) ?_
    obtain rfl := Option.some.inj hf
    exact retRz C (Or.inl rfl) dX3_hasStall_43
  · have hf := ifn c_2 hf
    refine lv_aload_n hx hb dX3_hasStall_8 rfl (lv_at hl 0 rfl) ?_
    refine fg_X3_34 C hP dX3_hasStall_9 ?_
    refine lv_iload_n hx hb dX3_hasStall_12 rfl (lv_at hl 1 rfl) ?_
    obtain ⟨h_3, hf⟩ := ifs hf
    refine va_iald hx hb hK hP 24 0 (aC_24 g a M) rfl h_3 dX3_hasStall_13 ?_
    refine lv_aload_n hx hb dX3_hasStall_14 rfl (lv_at hl 0 rfl) ?_
    refine fg_X3_69 C hP dX3_hasStall_15 ?_
    refine lv_iconst (v := 1) hx hb dX3_hasStall_18 (by decide) ?_
    refine lv_isub hx hb dX3_hasStall_19 ?_
    refine lv_icmp_ge (tgt := 42) hx hb dX3_hasStall_20 (by decide) (fun c_4 => ?_) (fun c_4 => ?_)
    · have hf := ifp c_4 hf
      refine lv_iconst (v := 0) hx hb dX3_hasStall_42 (by decide) ?_
      obtain rfl := Option.some.inj hf
      exact retRz C (Or.inl rfl) dX3_hasStall_43
    · have hf := ifn c_4 hf
      refine lv_aload_n hx hb dX3_hasStall_23 rfl (lv_at hl 0 rfl) ?_
      refine fg_X3_37 C hP dX3_hasStall_24 ?_
      refine lv_iload_n hx hb dX3_hasStall_27 rfl (lv_at hl 1 rfl) ?_
      refine va_iald hx hb hK hP 25 0 (aC_25 g a M) rfl h_3 dX3_hasStall_28 ?_
      refine lv_aload_n hx hb dX3_hasStall_29 rfl (lv_at hl 0 rfl) ?_
      refine fg_X3_73 C hP dX3_hasStall_30 ?_
      refine lv_iconst (v := 1) hx hb dX3_hasStall_33 (by decide) ?_
      refine lv_isub hx hb dX3_hasStall_34 ?_
      refine lv_icmp_ge (tgt := 42) hx hb dX3_hasStall_35 (by decide) (fun c_5 => ?_) (fun c_5 => ?_)
      · have hf := ifp c_5 hf
        refine lv_iconst (v := 0) hx hb dX3_hasStall_42 (by decide) ?_
        obtain rfl := Option.some.inj hf
        exact retRz C (Or.inl rfl) dX3_hasStall_43
      · have hf := ifn c_5 hf
        refine lv_iconst (v := 1) hx hb dX3_hasStall_38 (by decide) ?_
        refine lv_goto (tgt := 43) hx hb dX3_hasStall_39 (by decide) ?_
        obtain rfl := Option.some.inj hf
        exact retRz C (Or.inr rfl) dX3_hasStall_43
set_option maxHeartbeats 4000000 in
set_option maxRecDepth 100000 in
theorem c_X3_isAtEdge (l : Launch) (D : va_G) (g : Nat → ClassId) (a : Nat → Nat) (M : Mem) (x1 : Int32) (r : Int32) (hf : f_X3_isAtEdge M x1 = some r) : Met l yX3_isAtEdge (cW yX3_isAtEdge cX3_isAtEdge 2 (some .boolean)) (rmv 0 0) (Pw D (tyL g) (wC g a M) [.ref (a 2), .int x1]) (RdQ (.int r)) 0 0 nof := by
  unfold f_X3_isAtEdge at hf
  refine met_in (by decide) (Nat.le_of_ble_eq_true rfl) ?_
  intro p e s m args below meth c ls C hP hl
  have C : Cx p s m args meth c cX3_isAtEdge 2 (some .boolean) RX3 D (tyL g) := C
  obtain ⟨hx, hb, hr, hml, hown, ht, hlocks, hK, hN⟩ := id C
  have hl : lv_has ls 2 [(0, .ref (a 2)), (1, .int x1)] := hl
  refine lv_aload_n hx hb dX3_isAtEdge_0 rfl (lv_at hl 0 rfl) ?_
  refine fg_X3_34 C hP dX3_isAtEdge_1 ?_
  refine lv_iload_n hx hb dX3_isAtEdge_4 rfl (lv_at hl 1 rfl) ?_
  obtain ⟨h_1, hf⟩ := ifs hf
  refine va_iald hx hb hK hP 24 0 (aC_24 g a M) rfl h_1 dX3_isAtEdge_5 ?_
  refine lv_if_eq (tgt := 48) hx hb dX3_isAtEdge_6 (by decide) (fun c_2 => ?_) (fun c_2 => ?_)
  · have hf := ifp c_2 hf
    refine lv_iconst (v := 1) hx hb dX3_isAtEdge_48 (by decide) ?_
    refine lv_goto (tgt := 53) hx hb dX3_isAtEdge_49 (by decide) ?_
    obtain rfl := Option.some.inj hf
    exact retRz C (Or.inr rfl) dX3_isAtEdge_53
  · have hf := ifn c_2 hf
    refine lv_aload_n hx hb dX3_isAtEdge_9 rfl (lv_at hl 0 rfl) ?_
    refine fg_X3_34 C hP dX3_isAtEdge_10 ?_
    refine lv_iload_n hx hb dX3_isAtEdge_13 rfl (lv_at hl 1 rfl) ?_
    refine va_iald hx hb hK hP 24 0 (aC_24 g a M) rfl h_1 dX3_isAtEdge_14 ?_
    refine lv_aload_n hx hb dX3_isAtEdge_15 rfl (lv_at hl 0 rfl) ?_
    refine fg_X3_69 C hP dX3_isAtEdge_16 ?_
    refine lv_iconst (v := 1) hx hb dX3_isAtEdge_19 (by decide) ?_
    refine lv_isub hx hb dX3_isAtEdge_20 ?_
    refine lv_icmp_eq (tgt := 48) hx hb dX3_isAtEdge_21 (by decide) (fun c_3 => ?_) (fun c_3 => ?_)
    · have hf := ifp c_3 hf
      refine lv_iconst (v := 1) hx hb dX3_isAtEdge_48 (by decide) ?_
      refine lv_goto (tgt := 53) hx hb dX3_isAtEdge_49 (by decide) ?_
      obtain rfl := Option.some.inj hf
      exact retRz C (Or.inr rfl) dX3_isAtEdge_53
    · have hf := ifn c_3 hf
      refine lv_aload_n hx hb dX3_isAtEdge_24 rfl (lv_at hl 0 rfl) ?_
      refine fg_X3_37 C hP dX3_isAtEdge_25 ?_
      refine lv_iload_n hx hb dX3_isAtEdge_28 rfl (lv_at hl 1 rfl) ?_
      refine va_iald hx hb hK hP 25 0 (aC_25 g a M) rfl h_1 dX3_isAtEdge_29 ?_
      refine lv_if_eq (tgt := 48) hx hb dX3_isAtEdge_30 (by decide) (fun c_4 => ?_) (fun c_4 => ?_)
      · have hf := ifp c_4 hf
        refine lv_iconst (v := 1) hx hb dX3_isAtEdge_48 (by decide) ?_
        refine lv_goto (tgt := 53) hx hb dX3_isAtEdge_49 (by decide) ?_
        obtain rfl := Option.some.inj hf
        exact retRz C (Or.inr rfl) dX3_isAtEdge_53
      · have hf := ifn c_4 hf
        refine lv_aload_n hx hb dX3_isAtEdge_33 rfl (lv_at hl 0 rfl) ?_
        refine fg_X3_37 C hP dX3_isAtEdge_34 ?_
        refine lv_iload_n hx hb dX3_isAtEdge_37 rfl (lv_at hl 1 rfl) ?_
        refine va_iald hx hb hK hP 25 0 (aC_25 g a M) rfl h_1 dX3_isAtEdge_38 ?_
        refine lv_aload_n hx hb dX3_isAtEdge_39 rfl (lv_at hl 0 rfl) ?_
        refine fg_X3_73 C hP dX3_isAtEdge_40 ?_
        refine lv_iconst (v := 1) hx hb dX3_isAtEdge_43 (by decide) ?_
        refine lv_isub hx hb dX3_isAtEdge_44 ?_
        refine lv_icmp_ne (tgt := 52) hx hb dX3_isAtEdge_45 (by decide) (fun c_5 => ?_) (fun c_5 => ?_)
        · have hf := ifn c_5 hf
          refine lv_iconst (v := 0) hx hb dX3_isAtEdge_52 (by decide) ?_
          obtain rfl := Option.some.inj hf
          exact retRz C (Or.inl rfl) dX3_isAtEdge_53
        · have hf := ifp c_5 hf
          refine lv_iconst (v := 1) hx hb dX3_isAtEdge_48 (by decide) ?_
          refine lv_goto (tgt := 53) hx hb dX3_isAtEdge_49 (by decide) ?_
          obtain rfl := Option.some.inj hf
          exact retRz C (Or.inr rfl) dX3_isAtEdge_53
set_option maxHeartbeats 4000000 in
set_option maxRecDepth 100000 in
theorem c_X3_areBeside (l : Launch) (D : va_G) (g : Nat → ClassId) (a : Nat → Nat) (M : Mem) (x1 : Int32) (x2 : Int32) (r : Int32) (hf : f_X3_areBeside M x1 x2 = some r) : Met l yX3_areBeside (cW yX3_areBeside cX3_areBeside 3 (some .boolean)) (rmv 1 21) (Pw D (tyL g) (wC g a M) [.ref (a 2), .int x1, .int x2]) (RdQ (.int r)) 0 0 nof := by
  unfold f_X3_areBeside at hf
  refine met_in (by decide) (Nat.le_of_ble_eq_true rfl) ?_
  intro p e s m args below meth c ls C hP hl
  have C : Cx p s m args meth c cX3_areBeside 3 (some .boolean) RX3 D (tyL g) := C
  obtain ⟨hx, hb, hr, hml, hown, ht, hlocks, hK, hN⟩ := id C
  have hl : lv_has ls 3 [(0, .ref (a 2)), (1, .int x1), (2, .int x2)] := hl
  refine lv_aload_n hx hb dX3_areBeside_0 rfl (lv_at hl 0 rfl) ?_
  refine fg_X3_34 C hP dX3_areBeside_1 ?_
  refine lv_iload_n hx hb dX3_areBeside_4 rfl (lv_at hl 1 rfl) ?_
  obtain ⟨h_1, hf⟩ := ifs hf
  refine va_iald hx hb hK hP 24 0 (aC_24 g a M) rfl h_1 dX3_areBeside_5 ?_
  refine lv_aload_n hx hb dX3_areBeside_6 rfl (lv_at hl 0 rfl) ?_
  refine fg_X3_34 C hP dX3_areBeside_7 ?_
  refine lv_iload_n hx hb dX3_areBeside_10 rfl (lv_at hl 2 rfl) ?_
  obtain ⟨h_2, hf⟩ := ifs hf
  refine va_iald hx hb hK hP 24 0 (aC_24 g a M) rfl h_2 dX3_areBeside_11 ?_
  refine lv_isub hx hb dX3_areBeside_12 ?_
  refine va_mabs hx hb (hml.trans hl.1.symm) hown (ht _ wd_572) (ht _ wd_401) (ht _ wd_14) (ht _ wd_402) (Nat.le_of_ble_eq_true rfl) (Nat.le_of_ble_eq_true rfl) (Nat.le_refl _) (Nat.le_refl _) dX3_areBeside_13 ?_
  refine lv_aload_n hx hb dX3_areBeside_16 rfl (lv_at hl 0 rfl) ?_
  refine fg_X3_37 C hP dX3_areBeside_17 ?_
  refine lv_iload_n hx hb dX3_areBeside_20 rfl (lv_at hl 1 rfl) ?_
  refine va_iald hx hb hK hP 25 0 (aC_25 g a M) rfl h_1 dX3_areBeside_21 ?_
  refine lv_aload_n hx hb dX3_areBeside_22 rfl (lv_at hl 0 rfl) ?_
  refine fg_X3_37 C hP dX3_areBeside_23 ?_
  refine lv_iload_n hx hb dX3_areBeside_26 rfl (lv_at hl 2 rfl) ?_
  refine va_iald hx hb hK hP 25 0 (aC_25 g a M) rfl h_2 dX3_areBeside_27 ?_
  refine lv_isub hx hb dX3_areBeside_28 ?_
  refine va_mabs hx hb (hml.trans hl.1.symm) hown (ht _ wd_572) (ht _ wd_401) (ht _ wd_14) (ht _ wd_402) (Nat.le_of_ble_eq_true rfl) (Nat.le_of_ble_eq_true rfl) (Nat.le_refl _) (Nat.le_refl _) dX3_areBeside_29 ?_
  refine lv_iadd hx hb dX3_areBeside_32 ?_
  refine lv_iconst (v := 1) hx hb dX3_areBeside_33 (by decide) ?_
  refine lv_icmp_ne (tgt := 41) hx hb dX3_areBeside_34 (by decide) (fun c_3 => ?_) (fun c_3 => ?_)
  · have hf := ifn c_3 hf
    refine lv_iconst (v := 0) hx hb dX3_areBeside_41 (by decide) ?_
    obtain rfl := Option.some.inj hf
    exact retRz C (Or.inl rfl) dX3_areBeside_42
  · have hf := ifp c_3 hf
    refine lv_iconst (v := 1) hx hb dX3_areBeside_37 (by decide) ?_
    refine lv_goto (tgt := 42) hx hb dX3_areBeside_38 (by decide) ?_
    obtain rfl := Option.some.inj hf
    exact retRz C (Or.inr rfl) dX3_areBeside_42
set_option maxHeartbeats 4000000 in
set_option maxRecDepth 100000 in
theorem c_X3_bodyOf (l : Launch) (D : va_G) (g : Nat → ClassId) (a : Nat → Nat) (M : Mem) (x1 : Int32) (r : Nat) (hf : f_X3_bodyOf M x1 = some r) : Met l yX3_bodyOf (cW yX3_bodyOf cX3_bodyOf 2 (some (.object "BreathSquare$Stone"))) (rmv 0 0) (Pw D (tyL g) (wC g a M) [.ref (a 2), .int x1]) (RdQ (.ref (a (18 + r)))) 0 0 nof := by
  unfold f_X3_bodyOf at hf
  refine met_in (by decide) (Nat.le_of_ble_eq_true rfl) ?_
  intro p e s m args below meth c ls C hP hl
  have C : Cx p s m args meth c cX3_bodyOf 2 (some (.object "BreathSquare$Stone")) RX3 D (tyL g) := C
  obtain ⟨hx, hb, hr, hml, hown, ht, hlocks, hK, hN⟩ := id C
  have hl : lv_has ls 2 [(0, .ref (a 2)), (1, .int x1)] := hl
  refine lv_aload_n hx hb dX3_bodyOf_0 rfl (lv_at hl 0 rfl) ?_
  refine fg_X3_18 C hP dX3_bodyOf_1 ?_
  refine lv_aload_n hx hb dX3_bodyOf_4 rfl (lv_at hl 0 rfl) ?_
  refine fg_X3_24 C hP dX3_bodyOf_5 ?_
  refine lv_iload_n hx hb dX3_bodyOf_8 rfl (lv_at hl 1 rfl) ?_
  obtain ⟨h_1, hf⟩ := ifs hf
  refine va_iald hx hb hK hP 21 0 (aC_21 g a M) rfl h_1 dX3_bodyOf_9 ?_
  obtain ⟨h_2, hf⟩ := ifs hf
  refine va_aldq hx hb hK hP 17 3 (aC_17 g a M) rfl h_2 dX3_bodyOf_10 ?_
  refine W.eq (g2 := F0 m 11 ls (.ref (a (18 + ((M 21 x1.toNatClampNeg).toNatClampNeg))) :: [])) rfl ?_
  obtain rfl := Option.some.inj hf
  exact retRa C dX3_bodyOf_11
