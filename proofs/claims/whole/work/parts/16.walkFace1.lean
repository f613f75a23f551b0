set_option maxHeartbeats 4000000 in
set_option maxRecDepth 100000 in
theorem c_X11_failed (l : Launch) (D : va_G) (g : Nat → ClassId) (a : Nat → Nat) (hJ : Inj a 41) (M : Mem) (x1 : Int32) (r : Int32) (M' : Mem) (hf : f_X11_failed M x1 = some (r, M')) : Met l yX11_failed (cW yX11_failed cX11_failed 2 (some .int)) (rmv 0 0) (Pw D (tyL g) (wC g a M) [.ref (a 0), .int x1]) (WrQ D (wC g a M') (inA a 41) (.int r)) 0 0 (inA a 41) := by
  unfold f_X11_failed at hf
  refine met_inW (A := (inA a 41)) (by decide) (Nat.le_of_ble_eq_true rfl) ?_
  intro p e s m args below meth c ls H locs C hP hS hl
  have C : Cx p s m args meth c cX11_failed 2 (some .int) RX11 D (tyL g) := C
  obtain ⟨hx, hb, hr, hml, hown, ht, hlocks, hK, hN⟩ := id C
  have hl : lv_has ls 2 [(0, .ref (a 0)), (1, .int x1)] := hl
  refine lv_aload_n hx hb dX11_failed_0 rfl (lv_at hl 0 rfl) ?_
  refine lv_iload_n hx hb dX11_failed_1 rfl (lv_at hl 1 rfl) ?_
  refine fp_X11_69 C hP (wC_D hJ) hS dX11_failed_2 (fun H locs hP hS => ?_)
  obtain ⟨M1, eM1, hf⟩ := nms hf
  have hP : va_P D clL (wC g a M1) H := by rw [eM1]; exact hP
  refine lv_bipush (v := (-10)) hx hb dX11_failed_5 (by decide) ?_
  refine lv_iload_n hx hb dX11_failed_7 rfl (lv_at hl 1 rfl) ?_
  refine lv_isub hx hb dX11_failed_8 ?_
  obtain ⟨rfl, rfl⟩ := Prod.mk.inj (Option.some.inj hf)
  exact retW C hP hS dX11_failed_9
set_option maxHeartbeats 4000000 in
set_option maxRecDepth 100000 in
theorem c_X11_square (l : Launch) (D : va_G) (g : Nat → ClassId) (a : Nat → Nat) (hJ : Inj a 41) (N : Nat) (M : Mem) (x1 : Int32) (x2 : Int32) (x3 : Int32) (x4 : Int32) (r : Int32) (M' : Mem) (hf : f_X11_square N M x1 x2 x3 x4 = some (r, M')) : Met l yX11_square (cW yX11_square cX11_square 8 (some .int)) (rmv 3 73) (Pw D (tyL g) (wC g a M) [.ref (a 0), .int x1, .int x2, .int x3, .int x4]) (WrQ D (wC g a M') (inA a 41) (.int r)) 0 0 (inA a 41) := by
  unfold f_X11_square at hf
  refine met_inW (A := (inA a 41)) (by decide) (Nat.le_of_ble_eq_true rfl) ?_
  intro p e s m args below meth c ls H locs C hP hS hl
  have C : Cx p s m args meth c cX11_square 8 (some .int) RX11 D (tyL g) := C
  obtain ⟨hx, hb, hr, hml, hown, ht, hlocks, hK, hN⟩ := id C
  have hl : lv_has ls 8 [(0, .ref (a 0)), (1, .int x1), (2, .int x2), (3, .int x3), (4, .int x4)] := hl
  refine lv_aload_n hx hb dX11_square_0 rfl (lv_at hl 0 rfl) ?_
  refine lv_iconst (v := 0) hx hb dX11_square_1 (by decide) ?_
  refine fp_X11_69 C hP (wC_D hJ) hS dX11_square_2 (fun H locs hP hS => ?_)
  obtain ⟨M1, eM1, hf⟩ := nms hf
  have hP : va_P D clL (wC g a M1) H := by rw [eM1]; exact hP
  refine lv_iload_n hx hb dX11_square_5 rfl (lv_at hl 1 rfl) ?_
  obtain ⟨r2, e_2, hf⟩ := bns hf
  refine kR (rS (rest := []) C (c_X11_isSheet l D (tyL g) (wC g a M1) x1 r2 e_2) ok_X11_isSheet wd_262 hP ⟨rfl, rfl, Nat.le_of_ble_eq_true rfl, Nat.le_of_ble_eq_true rfl⟩ rfl hl.1 rfl (Nat.le_of_ble_eq_true rfl) dX11_square_6 ⟨Nat.le_of_ble_eq_true rfl, Nat.le_of_ble_eq_true rfl⟩) ?_
  refine lv_if_ne (tgt := 14) hx hb dX11_square_9 (by decide) (fun c_3 => ?_) (fun c_3 => ?_)
  · have hf := ifn c_3 hf
    refine lv_iload_n hx hb dX11_square_14 rfl (lv_at hl 2 rfl) ?_
    obtain ⟨r4, e_4, hf⟩ := bns hf
    refine kR (rS (rest := []) C (c_X11_isSort l D (tyL g) (wC g a M1) x2 r4 e_4) ok_X11_isSort wd_268 hP ⟨rfl, rfl, Nat.le_of_ble_eq_true rfl, Nat.le_of_ble_eq_true rfl⟩ rfl hl.1 rfl (Nat.le_of_ble_eq_true rfl) dX11_square_15 ⟨Nat.le_of_ble_eq_true rfl, Nat.le_of_ble_eq_true rfl⟩) ?_
    refine lv_if_ne (tgt := 24) hx hb dX11_square_18 (by decide) (fun c_5 => ?_) (fun c_5 => ?_)
    · have hf := ifn c_5 hf
      refine lv_aload_n hx hb dX11_square_24 rfl (lv_at hl 0 rfl) ?_
      refine fg_X11_65 C hP dX11_square_25 ?_
      refine lv_iload_n hx hb dX11_square_28 rfl (lv_at hl 1 rfl) ?_
      obtain ⟨h_6, hf⟩ := ifs hf
      refine va_aldq hx hb hK hP 8 2 (aC_8 g a M1) rfl h_6 dX11_square_29 ?_
      refine W.eq (g2 := F0 m 30 ls (.ref (a (9 + (x1.toNatClampNeg))) :: [])) rfl ?_
      refine lv_astore (lv' := [(5, .ref (a (9 + (x1.toNatClampNeg)))), (0, .ref (a 0)), (1, .int x1), (2, .int x2), (3, .int x3), (4, .int x4)]) hx hb dX11_square_30 hl (by decide) rfl (fun ls hl => ?_)
      refine lv_aload hx hb dX11_square_32 (lv_at hl 0 rfl) ?_
      refine lv_iload_n hx hb dX11_square_34 rfl (lv_at hl 3 rfl) ?_
      obtain ⟨r7, e_7, hf⟩ := bns hf
      refine kR (rV (rest := []) C (c_X6_faultAs l D g a (x1.toNatClampNeg) (k4 h_6) M1 x2 r7 e_7) ok_X6_faultAs wd_271 hP (9 + (x1.toNatClampNeg)) (aC_S g a M1 (k4 h_6)) rfl ⟨rfl, rfl, Nat.le_of_ble_eq_true rfl, Nat.le_of_ble_eq_true rfl⟩ rfl hl.1 rfl (Nat.le_of_ble_eq_true rfl) dX11_square_35 ⟨Nat.le_of_ble_eq_true rfl, Nat.le_of_ble_eq_true rfl⟩) ?_
      refine lv_istore (lv' := [(6, .int r7), (5, .ref (a (9 + (x1.toNatClampNeg)))), (0, .ref (a 0)), (1, .int x1), (2, .int x2), (3, .int x3), (4, .int x4)]) hx hb dX11_square_38 hl (by decide) rfl (fun ls hl => ?_)
      refine lv_iload hx hb dX11_square_40 (lv_at hl 0 rfl) ?_
      refine lv_if_eq (tgt := 52) hx hb dX11_square_42 (by decide) (fun c_8 => ?_) (fun c_8 => ?_)
      · have hf := ifp c_8 hf
        refine lv_iload hx hb dX11_square_52 (lv_at hl 6 rfl) ?_
        refine lv_if_ge (tgt := 63) hx hb dX11_square_54 (by decide) (fun c_9 => ?_) (fun c_9 => ?_)
        · have hf := ifp c_9 hf
          refine lv_aload hx hb dX11_square_63 (lv_at hl 1 rfl) ?_
          refine lv_iload_n hx hb dX11_square_65 rfl (lv_at hl 5 rfl) ?_
          refine lv_iload hx hb dX11_square_66 (lv_at hl 6 rfl) ?_
          obtain ⟨r10, e_10, hf⟩ := bns hf
          refine kR (rV (rest := []) C (c_X6_hasCells l D g a (x1.toNatClampNeg) (k4 h_6) M1 x3 x4 r10 e_10) ok_X6_hasCells wd_283 hP (9 + (x1.toNatClampNeg)) (aC_S g a M1 (k4 h_6)) rfl ⟨rfl, rfl, Nat.le_of_ble_eq_true rfl, Nat.le_of_ble_eq_true rfl⟩ rfl hl.1 rfl (Nat.le_of_ble_eq_true rfl) dX11_square_68 ⟨Nat.le_of_ble_eq_true rfl, Nat.le_of_ble_eq_true rfl⟩) ?_
          refine lv_if_ne (tgt := 80) hx hb dX11_square_71 (by decide) (fun c_11 => ?_) (fun c_11 => ?_)
          · have hf := ifn c_11 hf
            refine lv_aload hx hb dX11_square_80 (lv_at hl 1 rfl) ?_
            refine lv_iload_n hx hb dX11_square_82 rfl (lv_at hl 5 rfl) ?_
            refine lv_iload hx hb dX11_square_83 (lv_at hl 6 rfl) ?_
            obtain ⟨r12, e_12, hf⟩ := bns hf
            refine kR (rS (rest := []) C (c_X3_firstFault l D g a N (x1.toNatClampNeg) (k4 h_6) M1 x3 x4 r12 e_12) ok_X3_firstFault wd_287 hP ⟨rfl, rfl, Nat.le_of_ble_eq_true rfl, Nat.le_of_ble_eq_true rfl⟩ rfl hl.1 rfl (Nat.le_of_ble_eq_true rfl) dX11_square_85 ⟨Nat.le_of_ble_eq_true rfl, Nat.le_of_ble_eq_true rfl⟩) ?_
            refine lv_istore (lv' := [(7, .int r12), (6, .int r7), (5, .ref (a (9 + (x1.toNatClampNeg)))), (0, .ref (a 0)), (1, .int x1), (2, .int x2), (3, .int x3), (4, .int x4)]) hx hb dX11_square_88 hl (by decide) rfl (fun ls hl => ?_)
            refine lv_iload hx hb dX11_square_90 (lv_at hl 0 rfl) ?_
            refine lv_bipush (v := (-9)) hx hb dX11_square_92 (by decide) ?_
            refine lv_icmp_eq (tgt := 103) hx hb dX11_square_94 (by decide) (fun c_13 => ?_) (fun c_13 => ?_)
            · have hf := ifp c_13 hf
              refine lv_aload_n hx hb dX11_square_103 rfl (lv_at hl 3 rfl) ?_
              refine fg_X11_21 C hP dX11_square_104 ?_
              refine lv_aload hx hb dX11_square_107 (lv_at hl 2 rfl) ?_
              refine lv_iload_n hx hb dX11_square_109 rfl (lv_at hl 6 rfl) ?_
              obtain ⟨M14, e_14, hf⟩ := bns hf
              refine kWv (rV (rest := []) C (c_X3_lay l D g a hJ N (x1.toNatClampNeg) (k4 h_6) M1 x3 M14 e_14) ok_X3_lay wd_303 hP 2 (aC_2 g a M1) rfl ⟨rfl, rfl, Nat.le_of_ble_eq_true rfl, Nat.le_of_ble_eq_true rfl⟩ rfl hl.1 rfl (Nat.le_of_ble_eq_true rfl) dX11_square_110 ⟨Nat.le_of_ble_eq_true rfl, Nat.le_of_ble_eq_true rfl⟩) hS (fun H locs hP hS => ?_)
              refine lv_aload_n hx hb dX11_square_113 rfl (lv_at hl 3 rfl) ?_
              refine fg_X11_58 C hP dX11_square_114 ?_
              obtain ⟨M15, e_15, hf⟩ := bns hf
              refine kWv (rV (rest := []) C (c_X5_forgetAll l D g a hJ M14 M15 e_15) ok_X5_forgetAll wd_307 hP 7 (aC_7 g a M14) rfl ⟨rfl, rfl, Nat.le_of_ble_eq_true rfl, Nat.le_of_ble_eq_true rfl⟩ rfl hl.1 rfl (Nat.le_of_ble_eq_true rfl) dX11_square_117 ⟨Nat.le_of_ble_eq_true rfl, Nat.le_of_ble_eq_true rfl⟩) hS (fun H locs hP hS => ?_)
              refine lv_aload_n hx hb dX11_square_120 rfl (lv_at hl 3 rfl) ?_
              refine fg_X11_21 C hP dX11_square_121 ?_
              obtain ⟨r16, e_16, hf⟩ := bns hf
              refine kR (rV (rest := []) C (c_X3_stones l D g a M15 r16 e_16) ok_X3_stones wd_311 hP 2 (aC_2 g a M15) rfl ⟨rfl, rfl, Nat.le_of_ble_eq_true rfl, Nat.le_of_ble_eq_true rfl⟩ rfl hl.1 rfl (Nat.le_of_ble_eq_true rfl) dX11_square_124 ⟨Nat.le_of_ble_eq_true rfl, Nat.le_of_ble_eq_true rfl⟩) ?_
              obtain ⟨rfl, rfl⟩ := Prod.mk.inj (Option.some.inj hf)
              exact retW C hP hS dX11_square_127
            · have hf := ifn c_13 hf
              refine lv_bipush (v := (-100)) hx hb dX11_square_97 (by decide) ?_
              refine lv_iload hx hb dX11_square_99 (lv_at hl 0 rfl) ?_
              refine lv_isub hx hb dX11_square_101 ?_
              obtain ⟨rfl, rfl⟩ := Prod.mk.inj (Option.some.inj hf)
              exact retW C hP hS dX11_square_102
          · have hf := ifp c_11 hf
            refine lv_aload_n hx hb dX11_square_74 rfl (lv_at hl 2 rfl) ?_
            refine lv_iconst (v := 3) hx hb dX11_square_75 (by decide) ?_
            obtain ⟨q17, e_17, hf⟩ := bns hf
            refine kW (rV (rest := []) C (c_X11_failed l D g a hJ M1 3 q17.1 q17.2 e_17) ok_X11_failed wd_279 hP 0 (aC_0 g a M1) rfl ⟨rfl, rfl, Nat.le_of_ble_eq_true rfl, Nat.le_of_ble_eq_true rfl⟩ rfl hl.1 rfl (Nat.le_of_ble_eq_true rfl) dX11_square_76 ⟨Nat.le_of_ble_eq_true rfl, Nat.le_of_ble_eq_true rfl⟩) hS (fun H locs hP hS => ?_)
            obtain ⟨rfl, rfl⟩ := Prod.mk.inj (Option.some.inj hf)
            exact retW C hP hS dX11_square_79
        · have hf := ifn c_9 hf
          refine lv_aload_n hx hb dX11_square_57 rfl (lv_at hl 2 rfl) ?_
          refine lv_iconst (v := 4) hx hb dX11_square_58 (by decide) ?_
          obtain ⟨q18, e_18, hf⟩ := bns hf
          refine kW (rV (rest := []) C (c_X11_failed l D g a hJ M1 4 q18.1 q18.2 e_18) ok_X11_failed wd_279 hP 0 (aC_0 g a M1) rfl ⟨rfl, rfl, Nat.le_of_ble_eq_true rfl, Nat.le_of_ble_eq_true rfl⟩ rfl hl.1 rfl (Nat.le_of_ble_eq_true rfl) dX11_square_59 ⟨Nat.le_of_ble_eq_true rfl, Nat.le_of_ble_eq_true rfl⟩) hS (fun H locs hP hS => ?_)
          obtain ⟨rfl, rfl⟩ := Prod.mk.inj (Option.some.inj hf)
          exact retW C hP hS dX11_square_62
      · have hf := ifn c_8 hf
        refine lv_aload_n hx hb dX11_square_45 rfl (lv_at hl 2 rfl) ?_
        refine lv_iload hx hb dX11_square_46 (lv_at hl 0 rfl) ?_
        obtain ⟨q19, e_19, hf⟩ := bns hf
        refine kW (rV (rest := []) C (c_X11_failed l D g a hJ M1 r7 q19.1 q19.2 e_19) ok_X11_failed wd_279 hP 0 (aC_0 g a M1) rfl ⟨rfl, rfl, Nat.le_of_ble_eq_true rfl, Nat.le_of_ble_eq_true rfl⟩ rfl hl.1 rfl (Nat.le_of_ble_eq_true rfl) dX11_square_48 ⟨Nat.le_of_ble_eq_true rfl, Nat.le_of_ble_eq_true rfl⟩) hS (fun H locs hP hS => ?_)
        obtain ⟨rfl, rfl⟩ := Prod.mk.inj (Option.some.inj hf)
        exact retW C hP hS dX11_square_51
    · have hf := ifp c_5 hf
      refine lv_bipush (v := (-2)) hx hb dX11_square_21 (by decide) ?_
      obtain ⟨rfl, rfl⟩ := Prod.mk.inj (Option.some.inj hf)
      exact retW C hP hS dX11_square_23
  · have hf := ifp c_3 hf
    refine lv_iconst (v := (-1)) hx hb dX11_square_12 (by decide) ?_
    obtain ⟨rfl, rfl⟩ := Prod.mk.inj (Option.some.inj hf)
    exact retW C hP hS dX11_square_13
set_option maxHeartbeats 4000000 in
set_option maxRecDepth 100000 in
theorem c_X11_ofStone (l : Launch) (D : va_G) (g : Nat → ClassId) (a : Nat → Nat) (M : Mem) (x1 : Int32) (x2 : Int32) (r : Int32) (hf : f_X11_ofStone M x1 x2 = some r) : Met l yX11_ofStone (cW yX11_ofStone cX11_ofStone 3 (some .int)) (rmv 1 21) (Pw D (tyL g) (wC g a M) [.ref (a 0), .int x1, .int x2]) (RdQ (.int r)) 0 0 nof := by
  unfold f_X11_ofStone at hf
  refine met_in (by decide) (Nat.le_of_ble_eq_true rfl) ?_
  intro p e s m args below meth c ls C hP hl
  have C : Cx p s m args meth c cX11_ofStone 3 (some .int) RX11 D (tyL g) := C
  obtain ⟨hx, hb, hr, hml, hown, ht, hlocks, hK, hN⟩ := id C
  have hl : lv_has ls 3 [(0, .ref (a 0)), (1, .int x1), (2, .int x2)] := hl
  refine lv_aload_n hx hb dX11_ofStone_0 rfl (lv_at hl 0 rfl) ?_
  refine fg_X11_21 C hP dX11_ofStone_1 ?_
  refine lv_iload_n hx hb dX11_ofStone_4 rfl (lv_at hl 1 rfl) ?_
  obtain ⟨r1, e_1, hf⟩ := bns hf
  refine kR (rV (rest := []) C (c_X3_has l D g a M x1 r1 e_1) ok_X3_has wd_319 hP 2 (aC_2 g a M) rfl ⟨rfl, rfl, Nat.le_of_ble_eq_true rfl, Nat.le_of_ble_eq_true rfl⟩ rfl hl.1 rfl (Nat.le_of_ble_eq_true rfl) dX11_ofStone_5 ⟨Nat.le_of_ble_eq_true rfl, Nat.le_of_ble_eq_true rfl⟩) ?_
  refine lv_if_ne (tgt := 13) hx hb dX11_ofStone_8 (by decide) (fun c_2 => ?_) (fun c_2 => ?_)
  · have hf := ifn c_2 hf
    refine lv_iload_n hx hb dX11_ofStone_13 rfl (lv_at hl 2 rfl) ?_
    by_cases c_3 : x2 = 0
    · have hf := ifp c_3 hf
      refine lv_tableIn (tgt := 40) (off := 26) hx hb dX11_ofStone_14 (by rw [c_3]; decide) (by rw [c_3]; decide) (by rw [c_3]; rfl) (by decide) ?_
      refine lv_aload_n hx hb dX11_ofStone_40 rfl (lv_at hl 0 rfl) ?_
      refine fg_X11_21 C hP dX11_ofStone_41 ?_
      refine fg_X11_109 C hP dX11_ofStone_44 ?_
      refine lv_iload_n hx hb dX11_ofStone_47 rfl (lv_at hl 1 rfl) ?_
      obtain ⟨h_4, hf⟩ := ifs hf
      refine va_iald hx hb hK hP 21 0 (aC_21 g a M) rfl h_4 dX11_ofStone_48 ?_
      obtain rfl := Option.some.inj hf
      exact retR C dX11_ofStone_49
    · have hf := ifn c_3 hf
      by_cases c_5 : x2 = 1
      · have hf := ifp c_5 hf
        refine lv_tableIn (tgt := 50) (off := 36) hx hb dX11_ofStone_14 (by rw [c_5]; decide) (by rw [c_5]; decide) (by rw [c_5]; rfl) (by decide) ?_
        refine lv_aload_n hx hb dX11_ofStone_50 rfl (lv_at hl 0 rfl) ?_
        refine fg_X11_21 C hP dX11_ofStone_51 ?_
        refine fg_X11_113 C hP dX11_ofStone_54 ?_
        refine lv_iload_n hx hb dX11_ofStone_57 rfl (lv_at hl 1 rfl) ?_
        obtain ⟨h_6, hf⟩ := ifs hf
        refine va_iald hx hb hK hP 22 0 (aC_22 g a M) rfl h_6 dX11_ofStone_58 ?_
        obtain rfl := Option.some.inj hf
        exact retR C dX11_ofStone_59
      · have hf := ifn c_5 hf
        by_cases c_7 : x2 = 2
        · have hf := ifp c_7 hf
          refine lv_tableIn (tgt := 60) (off := 46) hx hb dX11_ofStone_14 (by rw [c_7]; decide) (by rw [c_7]; decide) (by rw [c_7]; rfl) (by decide) ?_
          refine lv_aload_n hx hb dX11_ofStone_60 rfl (lv_at hl 0 rfl) ?_
          refine fg_X11_21 C hP dX11_ofStone_61 ?_
          refine fg_X11_116 C hP dX11_ofStone_64 ?_
          refine lv_iload_n hx hb dX11_ofStone_67 rfl (lv_at hl 1 rfl) ?_
          obtain ⟨h_8, hf⟩ := ifs hf
          refine va_iald hx hb hK hP 23 0 (aC_23 g a M) rfl h_8 dX11_ofStone_68 ?_
          obtain rfl := Option.some.inj hf
          exact retR C dX11_ofStone_69
        · have hf := ifn c_7 hf
          refine lv_tableOut (tgt := 70) hx hb dX11_ofStone_14 (by have q0 : ¬ 0 = Int32.toInt x2 := fun e => i32ne c_3 e.symm; have q1 : ¬ 1 = Int32.toInt x2 := fun e => i32ne c_5 e.symm; have q2 : ¬ 2 = Int32.toInt x2 := fun e => i32ne c_7 e.symm; omega) (by decide) ?_
          refine lv_bipush (v := (-2)) hx hb dX11_ofStone_70 (by decide) ?_
          obtain rfl := Option.some.inj hf
          exact retR C dX11_ofStone_72
  · have hf := ifp c_2 hf
    refine lv_iconst (v := (-1)) hx hb dX11_ofStone_11 (by decide) ?_
    obtain rfl := Option.some.inj hf
    exact retR C dX11_ofStone_12
set_option maxHeartbeats 4000000 in
set_option maxRecDepth 100000 in
theorem c_X11_month (l : Launch) (D : va_G) (g : Nat → ClassId) (a : Nat → Nat) (hJ : Inj a 41) (M : Mem) (x1 : Int32) (x2 : Int32) (x3 : Int32) (r : Int32) (M' : Mem) (hf : f_X11_month M x1 x2 x3 = some (r, M')) : Met l yX11_month (cW yX11_month cX11_month 5 (some .int)) (rmv 2 42) (Pw D (tyL g) (wC g a M) [.ref (a 0), .int x1, .int x2, .int x3]) (WrQ D (wC g a M') (inA a 41) (.int r)) 0 0 (inA a 41) := by
  unfold f_X11_month at hf
  refine met_inW (A := (inA a 41)) (by decide) (Nat.le_of_ble_eq_true rfl) ?_
  intro p e s m args below meth c ls H locs C hP hS hl
  have C : Cx p s m args meth c cX11_month 5 (some .int) RX11 D (tyL g) := C
  obtain ⟨hx, hb, hr, hml, hown, ht, hlocks, hK, hN⟩ := id C
  have hl : lv_has ls 5 [(0, .ref (a 0)), (1, .int x1), (2, .int x2), (3, .int x3)] := hl
  refine lv_iload_n hx hb dX11_month_0 rfl (lv_at hl 1 rfl) ?_
  obtain ⟨r1, e_1, hf⟩ := bns hf
  refine kR (rS (rest := []) C (c_X11_isMonth l D (tyL g) (wC g a M) x1 r1 e_1) ok_X11_isMonth wd_327 hP ⟨rfl, rfl, Nat.le_of_ble_eq_true rfl, Nat.le_of_ble_eq_true rfl⟩ rfl hl.1 rfl (Nat.le_of_ble_eq_true rfl) dX11_month_1 ⟨Nat.le_of_ble_eq_true rfl, Nat.le_of_ble_eq_true rfl⟩) ?_
  refine lv_if_ne (tgt := 9) hx hb dX11_month_4 (by decide) (fun c_2 => ?_) (fun c_2 => ?_)
  · have hf := ifn c_2 hf
    refine lv_iload_n hx hb dX11_month_9 rfl (lv_at hl 2 rfl) ?_
    refine lv_iconst (v := 0) hx hb dX11_month_10 (by decide) ?_
    refine lv_bipush (v := 9) hx hb dX11_month_11 (by decide) ?_
    obtain ⟨r3, e_3, hf⟩ := bns hf
    refine kR (rS (rest := []) C (c_X11_isWithin l D (tyL g) (wC g a M) x2 0 9 r3 e_3) ok_X11_isWithin wd_265 hP ⟨rfl, rfl, Nat.le_of_ble_eq_true rfl, Nat.le_of_ble_eq_true rfl⟩ rfl hl.1 rfl (Nat.le_of_ble_eq_true rfl) dX11_month_13 ⟨Nat.le_of_ble_eq_true rfl, Nat.le_of_ble_eq_true rfl⟩) ?_
    refine lv_if_eq (tgt := 29) hx hb dX11_month_16 (by decide) (fun c_4 => ?_) (fun c_4 => ?_)
    · have hf := ifp c_4 hf
      refine lv_bipush (v := (-2)) hx hb dX11_month_29 (by decide) ?_
      obtain ⟨rfl, rfl⟩ := Prod.mk.inj (Option.some.inj hf)
      exact retW C hP hS dX11_month_31
    · have hf := ifn c_4 hf
      refine lv_iload_n hx hb dX11_month_19 rfl (lv_at hl 3 rfl) ?_
      refine lv_iconst (v := 0) hx hb dX11_month_20 (by decide) ?_
      refine lv_bipush (v := 9) hx hb dX11_month_21 (by decide) ?_
      obtain ⟨r5, e_5, hf⟩ := bns hf
      refine kR (rS (rest := []) C (c_X11_isWithin l D (tyL g) (wC g a M) x3 0 9 r5 e_5) ok_X11_isWithin wd_265 hP ⟨rfl, rfl, Nat.le_of_ble_eq_true rfl, Nat.le_of_ble_eq_true rfl⟩ rfl hl.1 rfl (Nat.le_of_ble_eq_true rfl) dX11_month_23 ⟨Nat.le_of_ble_eq_true rfl, Nat.le_of_ble_eq_true rfl⟩) ?_
      refine lv_if_ne (tgt := 32) hx hb dX11_month_26 (by decide) (fun c_6 => ?_) (fun c_6 => ?_)
      · have hf := ifn c_6 hf
        refine lv_aload_n hx hb dX11_month_32 rfl (lv_at hl 0 rfl) ?_
        refine fg_X11_21 C hP dX11_month_33 ?_
        obtain ⟨r7, e_7, hf⟩ := bns hf
        refine kR (rV (rest := []) C (c_X3_isBare l D g a M r7 e_7) ok_X3_isBare wd_330 hP 2 (aC_2 g a M) rfl ⟨rfl, rfl, Nat.le_of_ble_eq_true rfl, Nat.le_of_ble_eq_true rfl⟩ rfl hl.1 rfl (Nat.le_of_ble_eq_true rfl) dX11_month_36 ⟨Nat.le_of_ble_eq_true rfl, Nat.le_of_ble_eq_true rfl⟩) ?_
        refine lv_if_eq (tgt := 45) hx hb dX11_month_39 (by decide) (fun c_8 => ?_) (fun c_8 => ?_)
        · have hf := ifp c_8 hf
          refine lv_bipush (v := 10) hx hb dX11_month_45 (by decide) ?_
          refine lv_aload_n hx hb dX11_month_47 rfl (lv_at hl 0 rfl) ?_
          refine fg_X11_21 C hP dX11_month_48 ?_
          refine fg_X11_130 C hP dX11_month_51 ?_
          refine lv_iload_n hx hb dX11_month_54 rfl (lv_at hl 1 rfl) ?_
          obtain ⟨h_9, hf⟩ := ifs hf
          refine va_iald hx hb hK hP 26 0 (aC_26 g a M) rfl h_9 dX11_month_55 ?_
          refine lv_imul hx hb dX11_month_56 ?_
          refine lv_aload_n hx hb dX11_month_57 rfl (lv_at hl 0 rfl) ?_
          refine fg_X11_21 C hP dX11_month_58 ?_
          refine fg_X11_133 C hP dX11_month_61 ?_
          refine lv_iload_n hx hb dX11_month_64 rfl (lv_at hl 1 rfl) ?_
          refine va_iald hx hb hK hP 27 0 (aC_27 g a M) rfl h_9 dX11_month_65 ?_
          refine lv_iadd hx hb dX11_month_66 ?_
          refine lv_topi (fun z10 ez10 => ?_)
          have hf := nmr ez10 hf
          refine lv_istore (lv' := [(4, .int z10), (0, .ref (a 0)), (1, .int x1), (2, .int x2), (3, .int x3)]) hx hb dX11_month_67 hl (by decide) rfl (fun ls hl => ?_)
          refine lv_aload_n hx hb dX11_month_69 rfl (lv_at hl 1 rfl) ?_
          refine fg_X11_21 C hP dX11_month_70 ?_
          refine fg_X11_130 C hP dX11_month_73 ?_
          refine lv_iload_n hx hb dX11_month_76 rfl (lv_at hl 2 rfl) ?_
          refine lv_iload_n hx hb dX11_month_77 rfl (lv_at hl 3 rfl) ?_
          refine ast (wC g a) C hP (wC_D hJ) hS 26 0 (aC_26 g a M) rfl (sC_26 g a M) h_9 dX11_month_78 (fun H locs hP hS => ?_)
          obtain ⟨M11, eM11, hf⟩ := nms hf
          have hP : va_P D clL (wC g a M11) H := by rw [eM11]; exact hP
          refine lv_aload_n hx hb dX11_month_79 rfl (lv_at hl 1 rfl) ?_
          refine fg_X11_21 C hP dX11_month_80 ?_
          refine fg_X11_133 C hP dX11_month_83 ?_
          refine lv_iload_n hx hb dX11_month_86 rfl (lv_at hl 2 rfl) ?_
          refine lv_iload_n hx hb dX11_month_87 rfl (lv_at hl 4 rfl) ?_
          refine ast (wC g a) C hP (wC_D hJ) hS 27 0 (aC_27 g a M11) rfl (sC_27 g a M11) h_9 dX11_month_88 (fun H locs hP hS => ?_)
          obtain ⟨M12, eM12, hf⟩ := nms hf
          have hP : va_P D clL (wC g a M12) H := by rw [eM12]; exact hP
          refine lv_iload hx hb dX11_month_89 (lv_at hl 0 rfl) ?_
          obtain ⟨rfl, rfl⟩ := Prod.mk.inj (Option.some.inj hf)
          exact retW C hP hS dX11_month_91
        · have hf := ifn c_8 hf
          refine lv_bipush (v := (-3)) hx hb dX11_month_42 (by decide) ?_
          obtain ⟨rfl, rfl⟩ := Prod.mk.inj (Option.some.inj hf)
          exact retW C hP hS dX11_month_44
      · have hf := ifp c_6 hf
        refine lv_bipush (v := (-2)) hx hb dX11_month_29 (by decide) ?_
        obtain ⟨rfl, rfl⟩ := Prod.mk.inj (Option.some.inj hf)
        exact retW C hP hS dX11_month_31
  · have hf := ifp c_2 hf
    refine lv_iconst (v := (-1)) hx hb dX11_month_7 (by decide) ?_
    obtain ⟨rfl, rfl⟩ := Prod.mk.inj (Option.some.inj hf)
    exact retW C hP hS dX11_month_8
set_option maxHeartbeats 4000000 in
set_option maxRecDepth 100000 in
theorem c_X11_lift (l : Launch) (D : va_G) (g : Nat → ClassId) (a : Nat → Nat) (hJ : Inj a 41) (M : Mem) (x1 : Int32) (x2 : Int32) (r : Int32) (M' : Mem) (hf : f_X11_lift M x1 x2 = some (r, M')) : Met l yX11_lift (cW yX11_lift cX11_lift 4 (some .int)) (rmv 1 22) (Pw D (tyL g) (wC g a M) [.ref (a 0), .int x1, .int x2]) (WrQ D (wC g a M') (inA a 41) (.int r)) 0 0 (inA a 41) := by
  unfold f_X11_lift at hf
  refine met_inW (A := (inA a 41)) (by decide) (Nat.le_of_ble_eq_true rfl) ?_
  intro p e s m args below meth c ls H locs C hP hS hl
  have C : Cx p s m args meth c cX11_lift 4 (some .int) RX11 D (tyL g) := C
  obtain ⟨hx, hb, hr, hml, hown, ht, hlocks, hK, hN⟩ := id C
  have hl : lv_has ls 4 [(0, .ref (a 0)), (1, .int x1), (2, .int x2)] := hl
  refine lv_aload_n hx hb dX11_lift_0 rfl (lv_at hl 0 rfl) ?_
  refine fg_X11_21 C hP dX11_lift_1 ?_
  refine lv_iload_n hx hb dX11_lift_4 rfl (lv_at hl 1 rfl) ?_
  obtain ⟨r1, e_1, hf⟩ := bns hf
  refine kR (rV (rest := []) C (c_X3_has l D g a M x1 r1 e_1) ok_X3_has wd_319 hP 2 (aC_2 g a M) rfl ⟨rfl, rfl, Nat.le_of_ble_eq_true rfl, Nat.le_of_ble_eq_true rfl⟩ rfl hl.1 rfl (Nat.le_of_ble_eq_true rfl) dX11_lift_5 ⟨Nat.le_of_ble_eq_true rfl, Nat.le_of_ble_eq_true rfl⟩) ?_
  refine lv_if_ne (tgt := 13) hx hb dX11_lift_8 (by decide) (fun c_2 => ?_) (fun c_2 => ?_)
  · have hf := ifn c_2 hf
    refine lv_iload_n hx hb dX11_lift_13 rfl (lv_at hl 2 rfl) ?_
    refine lv_iconst (v := 0) hx hb dX11_lift_14 (by decide) ?_
    refine lv_bipush (v := 99) hx hb dX11_lift_15 (by decide) ?_
    obtain ⟨r3, e_3, hf⟩ := bns hf
    refine kR (rS (rest := []) C (c_X11_isWithin l D (tyL g) (wC g a M) x2 0 99 r3 e_3) ok_X11_isWithin wd_265 hP ⟨rfl, rfl, Nat.le_of_ble_eq_true rfl, Nat.le_of_ble_eq_true rfl⟩ rfl hl.1 rfl (Nat.le_of_ble_eq_true rfl) dX11_lift_17 ⟨Nat.le_of_ble_eq_true rfl, Nat.le_of_ble_eq_true rfl⟩) ?_
    refine lv_if_ne (tgt := 26) hx hb dX11_lift_20 (by decide) (fun c_4 => ?_) (fun c_4 => ?_)
    · have hf := ifn c_4 hf
      refine lv_aload_n hx hb dX11_lift_26 rfl (lv_at hl 0 rfl) ?_
      refine fg_X11_21 C hP dX11_lift_27 ?_
      refine fg_X11_116 C hP dX11_lift_30 ?_
      refine lv_iload_n hx hb dX11_lift_33 rfl (lv_at hl 1 rfl) ?_
      obtain ⟨h_5, hf⟩ := ifs hf
      refine va_iald hx hb hK hP 23 0 (aC_23 g a M) rfl h_5 dX11_lift_34 ?_
      refine lv_topi (fun z6 ez6 => ?_)
      have hf := nmr ez6 hf
      refine lv_istore_n (lv' := [(3, .int z6), (0, .ref (a 0)), (1, .int x1), (2, .int x2)]) hx hb dX11_lift_35 rfl hl (by decide) rfl (fun ls hl => ?_)
      refine lv_aload_n hx hb dX11_lift_36 rfl (lv_at hl 1 rfl) ?_
      refine fg_X11_21 C hP dX11_lift_37 ?_
      refine fg_X11_116 C hP dX11_lift_40 ?_
      refine lv_iload_n hx hb dX11_lift_43 rfl (lv_at hl 2 rfl) ?_
      refine lv_iload_n hx hb dX11_lift_44 rfl (lv_at hl 3 rfl) ?_
      refine ast (wC g a) C hP (wC_D hJ) hS 23 0 (aC_23 g a M) rfl (sC_23 g a M) h_5 dX11_lift_45 (fun H locs hP hS => ?_)
      obtain ⟨M7, eM7, hf⟩ := nms hf
      have hP : va_P D clL (wC g a M7) H := by rw [eM7]; exact hP
      refine lv_iload_n hx hb dX11_lift_46 rfl (lv_at hl 0 rfl) ?_
      obtain ⟨rfl, rfl⟩ := Prod.mk.inj (Option.some.inj hf)
      exact retW C hP hS dX11_lift_47
    · have hf := ifp c_4 hf
      refine lv_bipush (v := (-2)) hx hb dX11_lift_23 (by decide) ?_
      obtain ⟨rfl, rfl⟩ := Prod.mk.inj (Option.some.inj hf)
      exact retW C hP hS dX11_lift_25
  · have hf := ifp c_2 hf
    refine lv_iconst (v := (-1)) hx hb dX11_lift_11 (by decide) ?_
    obtain ⟨rfl, rfl⟩ := Prod.mk.inj (Option.some.inj hf)
    exact retW C hP hS dX11_lift_12
set_option maxHeartbeats 4000000 in
set_option maxRecDepth 100000 in
theorem c_X11_height (l : Launch) (D : va_G) (g : Nat → ClassId) (a : Nat → Nat) (M : Mem) (x1 : Int32) (x2 : Int32) (r : Int32) (hf : f_X11_height M x1 x2 = some r) : Met l yX11_height (cW yX11_height cX11_height 3 (some .int)) (rmv 4 89) (Pw D (tyL g) (wC g a M) [.ref (a 0), .int x1, .int x2]) (RdQ (.int r)) 0 0 nof := by
  unfold f_X11_height at hf
  refine met_in (by decide) (Nat.le_of_ble_eq_true rfl) ?_
  intro p e s m args below meth c ls C hP hl
  have C : Cx p s m args meth c cX11_height 3 (some .int) RX11 D (tyL g) := C
  obtain ⟨hx, hb, hr, hml, hown, ht, hlocks, hK, hN⟩ := id C
  have hl : lv_has ls 3 [(0, .ref (a 0)), (1, .int x1), (2, .int x2)] := hl
  refine lv_aload_n hx hb dX11_height_0 rfl (lv_at hl 0 rfl) ?_
  refine fg_X11_21 C hP dX11_height_1 ?_
  refine lv_iload_n hx hb dX11_height_4 rfl (lv_at hl 1 rfl) ?_
  obtain ⟨r1, e_1, hf⟩ := bns hf
  refine kR (rV (rest := []) C (c_X3_has l D g a M x1 r1 e_1) ok_X3_has wd_319 hP 2 (aC_2 g a M) rfl ⟨rfl, rfl, Nat.le_of_ble_eq_true rfl, Nat.le_of_ble_eq_true rfl⟩ rfl hl.1 rfl (Nat.le_of_ble_eq_true rfl) dX11_height_5 ⟨Nat.le_of_ble_eq_true rfl, Nat.le_of_ble_eq_true rfl⟩) ?_
  refine lv_if_eq (tgt := 18) hx hb dX11_height_8 (by decide) (fun c_2 => ?_) (fun c_2 => ?_)
  · have hf := ifp c_2 hf
    refine lv_iconst (v := (-1)) hx hb dX11_height_18 (by decide) ?_
    obtain rfl := Option.some.inj hf
    exact retR C dX11_height_19
  · have hf := ifn c_2 hf
    refine lv_iload_n hx hb dX11_height_11 rfl (lv_at hl 2 rfl) ?_
    obtain ⟨r3, e_3, hf⟩ := bns hf
    refine kR (rS (rest := []) C (c_X11_isMonth l D (tyL g) (wC g a M) x2 r3 e_3) ok_X11_isMonth wd_327 hP ⟨rfl, rfl, Nat.le_of_ble_eq_true rfl, Nat.le_of_ble_eq_true rfl⟩ rfl hl.1 rfl (Nat.le_of_ble_eq_true rfl) dX11_height_12 ⟨Nat.le_of_ble_eq_true rfl, Nat.le_of_ble_eq_true rfl⟩) ?_
    refine lv_if_ne (tgt := 20) hx hb dX11_height_15 (by decide) (fun c_4 => ?_) (fun c_4 => ?_)
    · have hf := ifn c_4 hf
      refine lv_aload_n hx hb dX11_height_20 rfl (lv_at hl 0 rfl) ?_
      refine fg_X11_21 C hP dX11_height_21 ?_
      refine lv_iload_n hx hb dX11_height_24 rfl (lv_at hl 1 rfl) ?_
      refine lv_iload_n hx hb dX11_height_25 rfl (lv_at hl 2 rfl) ?_
      obtain ⟨r5, e_5, hf⟩ := bns hf
      refine kR (rV (rest := []) C (c_X3_heightOf l D g a M x1 x2 r5 e_5) ok_X3_heightOf wd_342 hP 2 (aC_2 g a M) rfl ⟨rfl, rfl, Nat.le_of_ble_eq_true rfl, Nat.le_of_ble_eq_true rfl⟩ rfl hl.1 rfl (Nat.le_of_ble_eq_true rfl) dX11_height_26 ⟨Nat.le_of_ble_eq_true rfl, Nat.le_of_ble_eq_true rfl⟩) ?_
      obtain rfl := Option.some.inj hf
      exact retR C dX11_height_29
    · have hf := ifp c_4 hf
      refine lv_iconst (v := (-1)) hx hb dX11_height_18 (by decide) ?_
      obtain rfl := Option.some.inj hf
      exact retR C dX11_height_19
set_option maxHeartbeats 4000000 in
set_option maxRecDepth 100000 in
theorem c_X11_rises (l : Launch) (D : va_G) (g : Nat → ClassId) (a : Nat → Nat) (N : Nat) (M : Mem) (x1 : Int32) (x2 : Int32) (r : Int32) (hf : f_X11_rises N M x1 x2 = some r) : Met l yX11_rises (cW yX11_rises cX11_rises 3 (some .int)) (rmv 5 112) (Pw D (tyL g) (wC g a M) [.ref (a 0), .int x1, .int x2]) (RdQ (.int r)) 0 0 nof := by
  unfold f_X11_rises at hf
  refine met_in (by decide) (Nat.le_of_ble_eq_true rfl) ?_
  intro p e s m args below meth c ls C hP hl
  have C : Cx p s m args meth c cX11_rises 3 (some .int) RX11 D (tyL g) := C
  obtain ⟨hx, hb, hr, hml, hown, ht, hlocks, hK, hN⟩ := id C
  have hl : lv_has ls 3 [(0, .ref (a 0)), (1, .int x1), (2, .int x2)] := hl
  refine lv_aload_n hx hb dX11_rises_0 rfl (lv_at hl 0 rfl) ?_
  refine fg_X11_21 C hP dX11_rises_1 ?_
  refine lv_iload_n hx hb dX11_rises_4 rfl (lv_at hl 1 rfl) ?_
  obtain ⟨r1, e_1, hf⟩ := bns hf
  refine kR (rV (rest := []) C (c_X3_has l D g a M x1 r1 e_1) ok_X3_has wd_319 hP 2 (aC_2 g a M) rfl ⟨rfl, rfl, Nat.le_of_ble_eq_true rfl, Nat.le_of_ble_eq_true rfl⟩ rfl hl.1 rfl (Nat.le_of_ble_eq_true rfl) dX11_rises_5 ⟨Nat.le_of_ble_eq_true rfl, Nat.le_of_ble_eq_true rfl⟩) ?_
  refine lv_if_ne (tgt := 13) hx hb dX11_rises_8 (by decide) (fun c_2 => ?_) (fun c_2 => ?_)
  · have hf := ifn c_2 hf
    refine lv_iload_n hx hb dX11_rises_13 rfl (lv_at hl 2 rfl) ?_
    refine lv_iconst (v := 0) hx hb dX11_rises_14 (by decide) ?_
    refine lv_iconst (v := 1) hx hb dX11_rises_15 (by decide) ?_
    obtain ⟨r3, e_3, hf⟩ := bns hf
    refine kR (rS (rest := []) C (c_X11_isWithin l D (tyL g) (wC g a M) x2 0 1 r3 e_3) ok_X11_isWithin wd_265 hP ⟨rfl, rfl, Nat.le_of_ble_eq_true rfl, Nat.le_of_ble_eq_true rfl⟩ rfl hl.1 rfl (Nat.le_of_ble_eq_true rfl) dX11_rises_16 ⟨Nat.le_of_ble_eq_true rfl, Nat.le_of_ble_eq_true rfl⟩) ?_
    refine lv_if_ne (tgt := 25) hx hb dX11_rises_19 (by decide) (fun c_4 => ?_) (fun c_4 => ?_)
    · have hf := ifn c_4 hf
      refine lv_iload_n hx hb dX11_rises_25 rfl (lv_at hl 2 rfl) ?_
      refine lv_if_ne (tgt := 40) hx hb dX11_rises_26 (by decide) (fun c_5 => ?_) (fun c_5 => ?_)
      · have hf := ifn c_5 hf
        refine lv_aload_n hx hb dX11_rises_40 rfl (lv_at hl 0 rfl) ?_
        refine fg_X11_21 C hP dX11_rises_41 ?_
        refine lv_iload_n hx hb dX11_rises_44 rfl (lv_at hl 1 rfl) ?_
        obtain ⟨r6, e_6, hf⟩ := bns hf
        refine kR (rV (rest := []) C (c_X3_lowestMonth l D g a N M x1 r6 e_6) ok_X3_lowestMonth wd_371 hP 2 (aC_2 g a M) rfl ⟨rfl, rfl, Nat.le_of_ble_eq_true rfl, Nat.le_of_ble_eq_true rfl⟩ rfl hl.1 rfl (Nat.le_of_ble_eq_true rfl) dX11_rises_45 ⟨Nat.le_of_ble_eq_true rfl, Nat.le_of_ble_eq_true rfl⟩) ?_
        obtain rfl := Option.some.inj hf
        exact retR C dX11_rises_48
      · have hf := ifp c_5 hf
        refine lv_aload_n hx hb dX11_rises_29 rfl (lv_at hl 0 rfl) ?_
        refine fg_X11_21 C hP dX11_rises_30 ?_
        refine lv_iload_n hx hb dX11_rises_33 rfl (lv_at hl 1 rfl) ?_
        obtain ⟨r7, e_7, hf⟩ := bns hf
        refine kR (rV (rest := []) C (c_X3_highestMonth l D g a N M x1 r7 e_7) ok_X3_highestMonth wd_366 hP 2 (aC_2 g a M) rfl ⟨rfl, rfl, Nat.le_of_ble_eq_true rfl, Nat.le_of_ble_eq_true rfl⟩ rfl hl.1 rfl (Nat.le_of_ble_eq_true rfl) dX11_rises_34 ⟨Nat.le_of_ble_eq_true rfl, Nat.le_of_ble_eq_true rfl⟩) ?_
        refine lv_goto (tgt := 48) hx hb dX11_rises_37 (by decide) ?_
        obtain rfl := Option.some.inj hf
        exact retR C dX11_rises_48
    · have hf := ifp c_4 hf
      refine lv_bipush (v := (-2)) hx hb dX11_rises_22 (by decide) ?_
      obtain rfl := Option.some.inj hf
      exact retR C dX11_rises_24
  · have hf := ifp c_2 hf
    refine lv_iconst (v := (-1)) hx hb dX11_rises_11 (by decide) ?_
    obtain rfl := Option.some.inj hf
    exact retR C dX11_rises_12
set_option maxHeartbeats 4000000 in
set_option maxRecDepth 100000 in
theorem c_X11_way (l : Launch) (D : va_G) (g : Nat → ClassId) (a : Nat → Nat) (hJ : Inj a 41) (N : Nat) (M : Mem) (x1 : Int32) (x2 : Int32) (x3 : Int32) (x4 : Int32) (x5 : Int32) (r : Int32) (M' : Mem) (hf : f_X11_way N M x1 x2 x3 x4 x5 = some (r, M')) : Met l yX11_way (cW yX11_way cX11_way 6 (some .int)) (rmv 6 136) (Pw D (tyL g) (wC g a M) [.ref (a 0), .int x1, .int x2, .int x3, .int x4, .int x5]) (WrQ D (wC g a M') (inA a 41) (.int r)) 0 0 (inA a 41) := by
  unfold f_X11_way at hf
  refine met_inW (A := (inA a 41)) (by decide) (Nat.le_of_ble_eq_true rfl) ?_
  intro p e s m args below meth c ls H locs C hP hS hl
  have C : Cx p s m args meth c cX11_way 6 (some .int) RX11 D (tyL g) := C
  obtain ⟨hx, hb, hr, hml, hown, ht, hlocks, hK, hN⟩ := id C
  have hl : lv_has ls 6 [(0, .ref (a 0)), (1, .int x1), (2, .int x2), (3, .int x3), (4, .int x4), (5, .int x5)] := hl
  refine lv_aload_n hx hb dX11_way_0 rfl (lv_at hl 0 rfl) ?_
  refine fg_X11_21 C hP dX11_way_1 ?_
  refine lv_iload_n hx hb dX11_way_4 rfl (lv_at hl 1 rfl) ?_
  obtain ⟨r1, e_1, hf⟩ := bns hf
  refine kR (rV (rest := []) C (c_X3_has l D g a M x1 r1 e_1) ok_X3_has wd_319 hP 2 (aC_2 g a M) rfl ⟨rfl, rfl, Nat.le_of_ble_eq_true rfl, Nat.le_of_ble_eq_true rfl⟩ rfl hl.1 rfl (Nat.le_of_ble_eq_true rfl) dX11_way_5 ⟨Nat.le_of_ble_eq_true rfl, Nat.le_of_ble_eq_true rfl⟩) ?_
  refine lv_if_eq (tgt := 35) hx hb dX11_way_8 (by decide) (fun c_2 => ?_) (fun c_2 => ?_)
  · have hf := ifp c_2 hf
    refine lv_iconst (v := (-1)) hx hb dX11_way_35 (by decide) ?_
    obtain ⟨rfl, rfl⟩ := Prod.mk.inj (Option.some.inj hf)
    exact retW C hP hS dX11_way_36
  · have hf := ifn c_2 hf
    refine lv_aload_n hx hb dX11_way_11 rfl (lv_at hl 0 rfl) ?_
    refine fg_X11_21 C hP dX11_way_12 ?_
    refine lv_iload_n hx hb dX11_way_15 rfl (lv_at hl 2 rfl) ?_
    obtain ⟨r3, e_3, hf⟩ := bns hf
    refine kR (rV (rest := []) C (c_X3_has l D g a M x2 r3 e_3) ok_X3_has wd_319 hP 2 (aC_2 g a M) rfl ⟨rfl, rfl, Nat.le_of_ble_eq_true rfl, Nat.le_of_ble_eq_true rfl⟩ rfl hl.1 rfl (Nat.le_of_ble_eq_true rfl) dX11_way_16 ⟨Nat.le_of_ble_eq_true rfl, Nat.le_of_ble_eq_true rfl⟩) ?_
    refine lv_if_eq (tgt := 35) hx hb dX11_way_19 (by decide) (fun c_4 => ?_) (fun c_4 => ?_)
    · have hf := ifp c_4 hf
      refine lv_iconst (v := (-1)) hx hb dX11_way_35 (by decide) ?_
      obtain ⟨rfl, rfl⟩ := Prod.mk.inj (Option.some.inj hf)
      exact retW C hP hS dX11_way_36
    · have hf := ifn c_4 hf
      refine lv_iload_n hx hb dX11_way_22 rfl (lv_at hl 3 rfl) ?_
      obtain ⟨r5, e_5, hf⟩ := bns hf
      refine kR (rS (rest := []) C (c_X11_isMonth l D (tyL g) (wC g a M) x3 r5 e_5) ok_X11_isMonth wd_327 hP ⟨rfl, rfl, Nat.le_of_ble_eq_true rfl, Nat.le_of_ble_eq_true rfl⟩ rfl hl.1 rfl (Nat.le_of_ble_eq_true rfl) dX11_way_23 ⟨Nat.le_of_ble_eq_true rfl, Nat.le_of_ble_eq_true rfl⟩) ?_
      refine lv_if_eq (tgt := 35) hx hb dX11_way_26 (by decide) (fun c_6 => ?_) (fun c_6 => ?_)
      · have hf := ifp c_6 hf
        refine lv_iconst (v := (-1)) hx hb dX11_way_35 (by decide) ?_
        obtain ⟨rfl, rfl⟩ := Prod.mk.inj (Option.some.inj hf)
        exact retW C hP hS dX11_way_36
      · have hf := ifn c_6 hf
        refine lv_iload hx hb dX11_way_29 (lv_at hl 5 rfl) ?_
        refine lv_iconst (v := (-1)) hx hb dX11_way_31 (by decide) ?_
        refine lv_icmp_ge (tgt := 37) hx hb dX11_way_32 (by decide) (fun c_7 => ?_) (fun c_7 => ?_)
        · have hf := ifp c_7 hf
          refine lv_iload hx hb dX11_way_37 (lv_at hl 4 rfl) ?_
          obtain ⟨r8, e_8, hf⟩ := bns hf
          refine kR (rS (rest := []) C (c_X11_isApart l D (tyL g) (wC g a M) x4 r8 e_8) ok_X11_isApart wd_379 hP ⟨rfl, rfl, Nat.le_of_ble_eq_true rfl, Nat.le_of_ble_eq_true rfl⟩ rfl hl.1 rfl (Nat.le_of_ble_eq_true rfl) dX11_way_39 ⟨Nat.le_of_ble_eq_true rfl, Nat.le_of_ble_eq_true rfl⟩) ?_
          refine lv_if_ne (tgt := 48) hx hb dX11_way_42 (by decide) (fun c_9 => ?_) (fun c_9 => ?_)
          · have hf := ifn c_9 hf
            refine lv_aload_n hx hb dX11_way_48 rfl (lv_at hl 0 rfl) ?_
            refine fg_X11_30 C hP dX11_way_49 ?_
            refine lv_iload_n hx hb dX11_way_52 rfl (lv_at hl 3 rfl) ?_
            refine lv_iload_n hx hb dX11_way_53 rfl (lv_at hl 3 rfl) ?_
            obtain ⟨M10, e_10, hf⟩ := bns hf
            refine kWv (rV (rest := []) C (c_X10_measure l D g a hJ N M x3 x3 M10 e_10) ok_X10_measure wd_382 hP 3 (aC_3 g a M) rfl ⟨rfl, rfl, Nat.le_of_ble_eq_true rfl, Nat.le_of_ble_eq_true rfl⟩ rfl hl.1 rfl (Nat.le_of_ble_eq_true rfl) dX11_way_54 ⟨Nat.le_of_ble_eq_true rfl, Nat.le_of_ble_eq_true rfl⟩) hS (fun H locs hP hS => ?_)
            refine lv_aload_n hx hb dX11_way_57 rfl (lv_at hl 0 rfl) ?_
            refine fg_X11_30 C hP dX11_way_58 ?_
            refine lv_iload_n hx hb dX11_way_61 rfl (lv_at hl 2 rfl) ?_
            refine lv_iload hx hb dX11_way_62 (lv_at hl 4 rfl) ?_
            obtain ⟨M11, e_11, hf⟩ := bns hf
            refine kWv (rV (rest := []) C (c_X10_countStepsTo l D g a hJ N M10 x2 x4 M11 e_11) ok_X10_countStepsTo wd_406 hP 3 (aC_3 g a M10) rfl ⟨rfl, rfl, Nat.le_of_ble_eq_true rfl, Nat.le_of_ble_eq_true rfl⟩ rfl hl.1 rfl (Nat.le_of_ble_eq_true rfl) dX11_way_64 ⟨Nat.le_of_ble_eq_true rfl, Nat.le_of_ble_eq_true rfl⟩) hS (fun H locs hP hS => ?_)
            refine lv_iload hx hb dX11_way_67 (lv_at hl 5 rfl) ?_
            refine lv_iconst (v := (-1)) hx hb dX11_way_69 (by decide) ?_
            refine lv_icmp_ne (tgt := 85) hx hb dX11_way_70 (by decide) (fun c_12 => ?_) (fun c_12 => ?_)
            · have hf := ifn c_12 hf
              refine lv_aload_n hx hb dX11_way_85 rfl (lv_at hl 0 rfl) ?_
              refine fg_X11_30 C hP dX11_way_86 ?_
              refine lv_iload_n hx hb dX11_way_89 rfl (lv_at hl 1 rfl) ?_
              refine lv_iload hx hb dX11_way_90 (lv_at hl 4 rfl) ?_
              refine lv_iload hx hb dX11_way_92 (lv_at hl 5 rfl) ?_
              obtain ⟨r13, e_13, hf⟩ := bns hf
              refine kR (rV (rest := []) C (c_X10_stoneBehind l D g a N M11 x1 x4 x5 r13 e_13) ok_X10_stoneBehind wd_414 hP 3 (aC_3 g a M11) rfl ⟨rfl, rfl, Nat.le_of_ble_eq_true rfl, Nat.le_of_ble_eq_true rfl⟩ rfl hl.1 rfl (Nat.le_of_ble_eq_true rfl) dX11_way_94 ⟨Nat.le_of_ble_eq_true rfl, Nat.le_of_ble_eq_true rfl⟩) ?_
              obtain ⟨rfl, rfl⟩ := Prod.mk.inj (Option.some.inj hf)
              exact retW C hP hS dX11_way_97
            · have hf := ifp c_12 hf
              refine lv_aload_n hx hb dX11_way_73 rfl (lv_at hl 0 rfl) ?_
              refine fg_X11_30 C hP dX11_way_74 ?_
              refine fg_X11_156 C hP dX11_way_77 ?_
              refine lv_iload_n hx hb dX11_way_80 rfl (lv_at hl 1 rfl) ?_
              obtain ⟨h_14, hf⟩ := ifs hf
              refine va_iald hx hb hK hP 31 0 (aC_31 g a M11) rfl h_14 dX11_way_81 ?_
              refine lv_goto (tgt := 97) hx hb dX11_way_82 (by decide) ?_
              obtain ⟨rfl, rfl⟩ := Prod.mk.inj (Option.some.inj hf)
              exact retW C hP hS dX11_way_97
          · have hf := ifp c_9 hf
            refine lv_bipush (v := (-2)) hx hb dX11_way_45 (by decide) ?_
            obtain ⟨rfl, rfl⟩ := Prod.mk.inj (Option.some.inj hf)
            exact retW C hP hS dX11_way_47
        · have hf := ifn c_7 hf
          refine lv_iconst (v := (-1)) hx hb dX11_way_35 (by decide) ?_
          obtain ⟨rfl, rfl⟩ := Prod.mk.inj (Option.some.inj hf)
          exact retW C hP hS dX11_way_36
set_option maxHeartbeats 4000000 in
set_option maxRecDepth 100000 in
theorem c_X11_holds (l : Launch) (D : va_G) (g : Nat → ClassId) (a : Nat → Nat) (hJ : Inj a 41) (N : Nat) (M : Mem) (x1 : Int32) (x2 : Int32) (x3 : Int32) (x4 : Int32) (x5 : Int32) (r : Int32) (M' : Mem) (hf : f_X11_holds N M x1 x2 x3 x4 x5 = some (r, M')) : Met l yX11_holds (cW yX11_holds cX11_holds 6 (some .int)) (rmv 6 136) (Pw D (tyL g) (wC g a M) [.ref (a 0), .int x1, .int x2, .int x3, .int x4, .int x5]) (WrQ D (wC g a M') (inA a 41) (.int r)) 0 0 (inA a 41) := by
  unfold f_X11_holds at hf
  refine met_inW (A := (inA a 41)) (by decide) (Nat.le_of_ble_eq_true rfl) ?_
  intro p e s m args below meth c ls H locs C hP hS hl
  have C : Cx p s m args meth c cX11_holds 6 (some .int) RX11 D (tyL g) := C
  obtain ⟨hx, hb, hr, hml, hown, ht, hlocks, hK, hN⟩ := id C
  have hl : lv_has ls 6 [(0, .ref (a 0)), (1, .int x1), (2, .int x2), (3, .int x3), (4, .int x4), (5, .int x5)] := hl
  refine lv_aload_n hx hb dX11_holds_0 rfl (lv_at hl 0 rfl) ?_
  refine fg_X11_21 C hP dX11_holds_1 ?_
  refine lv_iload_n hx hb dX11_holds_4 rfl (lv_at hl 1 rfl) ?_
  obtain ⟨r1, e_1, hf⟩ := bns hf
  refine kR (rV (rest := []) C (c_X3_has l D g a M x1 r1 e_1) ok_X3_has wd_319 hP 2 (aC_2 g a M) rfl ⟨rfl, rfl, Nat.le_of_ble_eq_true rfl, Nat.le_of_ble_eq_true rfl⟩ rfl hl.1 rfl (Nat.le_of_ble_eq_true rfl) dX11_holds_5 ⟨Nat.le_of_ble_eq_true rfl, Nat.le_of_ble_eq_true rfl⟩) ?_
  refine lv_if_eq (tgt := 22) hx hb dX11_holds_8 (by decide) (fun c_2 => ?_) (fun c_2 => ?_)
  · have hf := ifp c_2 hf
    refine lv_iconst (v := (-1)) hx hb dX11_holds_22 (by decide) ?_
    obtain ⟨rfl, rfl⟩ := Prod.mk.inj (Option.some.inj hf)
    exact retW C hP hS dX11_holds_23
  · have hf := ifn c_2 hf
    refine lv_aload_n hx hb dX11_holds_11 rfl (lv_at hl 0 rfl) ?_
    refine fg_X11_21 C hP dX11_holds_12 ?_
    refine lv_iload_n hx hb dX11_holds_15 rfl (lv_at hl 2 rfl) ?_
    obtain ⟨r3, e_3, hf⟩ := bns hf
    refine kR (rV (rest := []) C (c_X3_has l D g a M x2 r3 e_3) ok_X3_has wd_319 hP 2 (aC_2 g a M) rfl ⟨rfl, rfl, Nat.le_of_ble_eq_true rfl, Nat.le_of_ble_eq_true rfl⟩ rfl hl.1 rfl (Nat.le_of_ble_eq_true rfl) dX11_holds_16 ⟨Nat.le_of_ble_eq_true rfl, Nat.le_of_ble_eq_true rfl⟩) ?_
    refine lv_if_ne (tgt := 24) hx hb dX11_holds_19 (by decide) (fun c_4 => ?_) (fun c_4 => ?_)
    · have hf := ifn c_4 hf
      refine lv_iload_n hx hb dX11_holds_24 rfl (lv_at hl 3 rfl) ?_
      obtain ⟨r5, e_5, hf⟩ := bns hf
      refine kR (rS (rest := []) C (c_X11_isMonth l D (tyL g) (wC g a M) x3 r5 e_5) ok_X11_isMonth wd_327 hP ⟨rfl, rfl, Nat.le_of_ble_eq_true rfl, Nat.le_of_ble_eq_true rfl⟩ rfl hl.1 rfl (Nat.le_of_ble_eq_true rfl) dX11_holds_25 ⟨Nat.le_of_ble_eq_true rfl, Nat.le_of_ble_eq_true rfl⟩) ?_
      refine lv_if_eq (tgt := 45) hx hb dX11_holds_28 (by decide) (fun c_6 => ?_) (fun c_6 => ?_)
      · have hf := ifp c_6 hf
        refine lv_iconst (v := (-1)) hx hb dX11_holds_45 (by decide) ?_
        obtain ⟨rfl, rfl⟩ := Prod.mk.inj (Option.some.inj hf)
        exact retW C hP hS dX11_holds_46
      · have hf := ifn c_6 hf
        refine lv_iload hx hb dX11_holds_31 (lv_at hl 4 rfl) ?_
        obtain ⟨r7, e_7, hf⟩ := bns hf
        refine kR (rS (rest := []) C (c_X11_isMonth l D (tyL g) (wC g a M) x4 r7 e_7) ok_X11_isMonth wd_327 hP ⟨rfl, rfl, Nat.le_of_ble_eq_true rfl, Nat.le_of_ble_eq_true rfl⟩ rfl hl.1 rfl (Nat.le_of_ble_eq_true rfl) dX11_holds_33 ⟨Nat.le_of_ble_eq_true rfl, Nat.le_of_ble_eq_true rfl⟩) ?_
        refine lv_if_eq (tgt := 45) hx hb dX11_holds_36 (by decide) (fun c_8 => ?_) (fun c_8 => ?_)
        · have hf := ifp c_8 hf
          refine lv_iconst (v := (-1)) hx hb dX11_holds_45 (by decide) ?_
          obtain ⟨rfl, rfl⟩ := Prod.mk.inj (Option.some.inj hf)
          exact retW C hP hS dX11_holds_46
        · have hf := ifn c_8 hf
          refine lv_iload hx hb dX11_holds_39 (lv_at hl 4 rfl) ?_
          refine lv_iload_n hx hb dX11_holds_41 rfl (lv_at hl 3 rfl) ?_
          refine lv_icmp_ge (tgt := 47) hx hb dX11_holds_42 (by decide) (fun c_9 => ?_) (fun c_9 => ?_)
          · have hf := ifp c_9 hf
            refine lv_iload hx hb dX11_holds_47 (lv_at hl 5 rfl) ?_
            obtain ⟨r10, e_10, hf⟩ := bns hf
            refine kR (rS (rest := []) C (c_X11_isApart l D (tyL g) (wC g a M) x5 r10 e_10) ok_X11_isApart wd_379 hP ⟨rfl, rfl, Nat.le_of_ble_eq_true rfl, Nat.le_of_ble_eq_true rfl⟩ rfl hl.1 rfl (Nat.le_of_ble_eq_true rfl) dX11_holds_49 ⟨Nat.le_of_ble_eq_true rfl, Nat.le_of_ble_eq_true rfl⟩) ?_
            refine lv_if_ne (tgt := 58) hx hb dX11_holds_52 (by decide) (fun c_11 => ?_) (fun c_11 => ?_)
            · have hf := ifn c_11 hf
              refine lv_aload_n hx hb dX11_holds_58 rfl (lv_at hl 0 rfl) ?_
              refine fg_X11_30 C hP dX11_holds_59 ?_
              refine lv_iload_n hx hb dX11_holds_62 rfl (lv_at hl 3 rfl) ?_
              refine lv_iload hx hb dX11_holds_63 (lv_at hl 4 rfl) ?_
              obtain ⟨M12, e_12, hf⟩ := bns hf
              refine kWv (rV (rest := []) C (c_X10_measure l D g a hJ N M x3 x4 M12 e_12) ok_X10_measure wd_382 hP 3 (aC_3 g a M) rfl ⟨rfl, rfl, Nat.le_of_ble_eq_true rfl, Nat.le_of_ble_eq_true rfl⟩ rfl hl.1 rfl (Nat.le_of_ble_eq_true rfl) dX11_holds_65 ⟨Nat.le_of_ble_eq_true rfl, Nat.le_of_ble_eq_true rfl⟩) hS (fun H locs hP hS => ?_)
              refine lv_aload_n hx hb dX11_holds_68 rfl (lv_at hl 0 rfl) ?_
              refine fg_X11_30 C hP dX11_holds_69 ?_
              refine lv_iload_n hx hb dX11_holds_72 rfl (lv_at hl 2 rfl) ?_
              refine lv_iload hx hb dX11_holds_73 (lv_at hl 5 rfl) ?_
              obtain ⟨M13, e_13, hf⟩ := bns hf
              refine kWv (rV (rest := []) C (c_X10_countStepsTo l D g a hJ N M12 x2 x5 M13 e_13) ok_X10_countStepsTo wd_406 hP 3 (aC_3 g a M12) rfl ⟨rfl, rfl, Nat.le_of_ble_eq_true rfl, Nat.le_of_ble_eq_true rfl⟩ rfl hl.1 rfl (Nat.le_of_ble_eq_true rfl) dX11_holds_75 ⟨Nat.le_of_ble_eq_true rfl, Nat.le_of_ble_eq_true rfl⟩) hS (fun H locs hP hS => ?_)
              refine lv_aload_n hx hb dX11_holds_78 rfl (lv_at hl 0 rfl) ?_
              refine fg_X11_30 C hP dX11_holds_79 ?_
              refine fg_X11_156 C hP dX11_holds_82 ?_
              refine lv_iload_n hx hb dX11_holds_85 rfl (lv_at hl 1 rfl) ?_
              obtain ⟨h_14, hf⟩ := ifs hf
              refine va_iald hx hb hK hP 31 0 (aC_31 g a M13) rfl h_14 dX11_holds_86 ?_
              obtain ⟨rfl, rfl⟩ := Prod.mk.inj (Option.some.inj hf)
              exact retW C hP hS dX11_holds_87
            · have hf := ifp c_11 hf
              refine lv_bipush (v := (-2)) hx hb dX11_holds_55 (by decide) ?_
              obtain ⟨rfl, rfl⟩ := Prod.mk.inj (Option.some.inj hf)
              exact retW C hP hS dX11_holds_57
          · have hf := ifn c_9 hf
            refine lv_iconst (v := (-1)) hx hb dX11_holds_45 (by decide) ?_
            obtain ⟨rfl, rfl⟩ := Prod.mk.inj (Option.some.inj hf)
            exact retW C hP hS dX11_holds_46
    · have hf := ifp c_4 hf
      refine lv_iconst (v := (-1)) hx hb dX11_holds_22 (by decide) ?_
      obtain ⟨rfl, rfl⟩ := Prod.mk.inj (Option.some.inj hf)
      exact retW C hP hS dX11_holds_23
set_option maxHeartbeats 4000000 in
set_option maxRecDepth 100000 in
theorem c_X11_leastStep (l : Launch) (D : va_G) (g : Nat → ClassId) (a : Nat → Nat) (hJ : Inj a 41) (N : Nat) (M : Mem) (x1 : Int32) (x2 : Int32) (x3 : Int32) (r : Int32) (M' : Mem) (hf : f_X11_leastStep N M x1 x2 x3 = some (r, M')) : Met l yX11_leastStep (cW yX11_leastStep cX11_leastStep 4 (some .int)) (rmv 6 136) (Pw D (tyL g) (wC g a M) [.ref (a 0), .int x1, .int x2, .int x3]) (WrQ D (wC g a M') (inA a 41) (.int r)) 0 0 (inA a 41) := by
  unfold f_X11_leastStep at hf
  refine met_inW (A := (inA a 41)) (by decide) (Nat.le_of_ble_eq_true rfl) ?_
  intro p e s m args below meth c ls H locs C hP hS hl
  have C : Cx p s m args meth c cX11_leastStep 4 (some .int) RX11 D (tyL g) := C
  obtain ⟨hx, hb, hr, hml, hown, ht, hlocks, hK, hN⟩ := id C
  have hl : lv_has ls 4 [(0, .ref (a 0)), (1, .int x1), (2, .int x2), (3, .int x3)] := hl
  refine lv_aload_n hx hb dX11_leastStep_0 rfl (lv_at hl 0 rfl) ?_
  refine fg_X11_21 C hP dX11_leastStep_1 ?_
  refine lv_iload_n hx hb dX11_leastStep_4 rfl (lv_at hl 1 rfl) ?_
  obtain ⟨r1, e_1, hf⟩ := bns hf
  refine kR (rV (rest := []) C (c_X3_has l D g a M x1 r1 e_1) ok_X3_has wd_319 hP 2 (aC_2 g a M) rfl ⟨rfl, rfl, Nat.le_of_ble_eq_true rfl, Nat.le_of_ble_eq_true rfl⟩ rfl hl.1 rfl (Nat.le_of_ble_eq_true rfl) dX11_leastStep_5 ⟨Nat.le_of_ble_eq_true rfl, Nat.le_of_ble_eq_true rfl⟩) ?_
  refine lv_if_eq (tgt := 29) hx hb dX11_leastStep_8 (by decide) (fun c_2 => ?_) (fun c_2 => ?_)
  · have hf := ifp c_2 hf
    refine lv_iconst (v := (-1)) hx hb dX11_leastStep_29 (by decide) ?_
    obtain ⟨rfl, rfl⟩ := Prod.mk.inj (Option.some.inj hf)
    exact retW C hP hS dX11_leastStep_30
  · have hf := ifn c_2 hf
    refine lv_aload_n hx hb dX11_leastStep_11 rfl (lv_at hl 0 rfl) ?_
    refine fg_X11_21 C hP dX11_leastStep_12 ?_
    refine lv_iload_n hx hb dX11_leastStep_15 rfl (lv_at hl 2 rfl) ?_
    obtain ⟨r3, e_3, hf⟩ := bns hf
    refine kR (rV (rest := []) C (c_X3_has l D g a M x2 r3 e_3) ok_X3_has wd_319 hP 2 (aC_2 g a M) rfl ⟨rfl, rfl, Nat.le_of_ble_eq_true rfl, Nat.le_of_ble_eq_true rfl⟩ rfl hl.1 rfl (Nat.le_of_ble_eq_true rfl) dX11_leastStep_16 ⟨Nat.le_of_ble_eq_true rfl, Nat.le_of_ble_eq_true rfl⟩) ?_
    refine lv_if_eq (tgt := 29) hx hb dX11_leastStep_19 (by decide) (fun c_4 => ?_) (fun c_4 => ?_)
    · have hf := ifp c_4 hf
      refine lv_iconst (v := (-1)) hx hb dX11_leastStep_29 (by decide) ?_
      obtain ⟨rfl, rfl⟩ := Prod.mk.inj (Option.some.inj hf)
      exact retW C hP hS dX11_leastStep_30
    · have hf := ifn c_4 hf
      refine lv_iload_n hx hb dX11_leastStep_22 rfl (lv_at hl 3 rfl) ?_
      obtain ⟨r5, e_5, hf⟩ := bns hf
      refine kR (rS (rest := []) C (c_X11_isMonth l D (tyL g) (wC g a M) x3 r5 e_5) ok_X11_isMonth wd_327 hP ⟨rfl, rfl, Nat.le_of_ble_eq_true rfl, Nat.le_of_ble_eq_true rfl⟩ rfl hl.1 rfl (Nat.le_of_ble_eq_true rfl) dX11_leastStep_23 ⟨Nat.le_of_ble_eq_true rfl, Nat.le_of_ble_eq_true rfl⟩) ?_
      refine lv_if_ne (tgt := 31) hx hb dX11_leastStep_26 (by decide) (fun c_6 => ?_) (fun c_6 => ?_)
      · have hf := ifn c_6 hf
        refine lv_aload_n hx hb dX11_leastStep_31 rfl (lv_at hl 0 rfl) ?_
        refine fg_X11_30 C hP dX11_leastStep_32 ?_
        refine lv_iload_n hx hb dX11_leastStep_35 rfl (lv_at hl 3 rfl) ?_
        refine lv_iload_n hx hb dX11_leastStep_36 rfl (lv_at hl 3 rfl) ?_
        obtain ⟨M7, e_7, hf⟩ := bns hf
        refine kWv (rV (rest := []) C (c_X10_measure l D g a hJ N M x3 x3 M7 e_7) ok_X10_measure wd_382 hP 3 (aC_3 g a M) rfl ⟨rfl, rfl, Nat.le_of_ble_eq_true rfl, Nat.le_of_ble_eq_true rfl⟩ rfl hl.1 rfl (Nat.le_of_ble_eq_true rfl) dX11_leastStep_37 ⟨Nat.le_of_ble_eq_true rfl, Nat.le_of_ble_eq_true rfl⟩) hS (fun H locs hP hS => ?_)
        refine lv_aload_n hx hb dX11_leastStep_40 rfl (lv_at hl 0 rfl) ?_
        refine fg_X11_30 C hP dX11_leastStep_41 ?_
        refine lv_iload_n hx hb dX11_leastStep_44 rfl (lv_at hl 1 rfl) ?_
        refine lv_iload_n hx hb dX11_leastStep_45 rfl (lv_at hl 2 rfl) ?_
        obtain ⟨q8, e_8, hf⟩ := bns hf
        refine kW (rV (rest := []) C (c_X10_leastBetween l D g a hJ N M7 x1 x2 q8.1 q8.2 e_8) ok_X10_leastBetween wd_430 hP 3 (aC_3 g a M7) rfl ⟨rfl, rfl, Nat.le_of_ble_eq_true rfl, Nat.le_of_ble_eq_true rfl⟩ rfl hl.1 rfl (Nat.le_of_ble_eq_true rfl) dX11_leastStep_46 ⟨Nat.le_of_ble_eq_true rfl, Nat.le_of_ble_eq_true rfl⟩) hS (fun H locs hP hS => ?_)
        obtain ⟨rfl, rfl⟩ := Prod.mk.inj (Option.some.inj hf)
        exact retW C hP hS dX11_leastStep_49
      · have hf := ifp c_6 hf
        refine lv_iconst (v := (-1)) hx hb dX11_leastStep_29 (by decide) ?_
        obtain ⟨rfl, rfl⟩ := Prod.mk.inj (Option.some.inj hf)
        exact retW C hP hS dX11_leastStep_30
set_option maxHeartbeats 4000000 in
set_option maxRecDepth 100000 in
theorem c_X11_wedges (l : Launch) (D : va_G) (g : Nat → ClassId) (a : Nat → Nat) (hJ : Inj a 41) (N : Nat) (M : Mem) (x1 : Int32) (x2 : Int32) (r : Int32) (M' : Mem) (hf : f_X11_wedges N M x1 x2 = some (r, M')) : Met l yX11_wedges (cW yX11_wedges cX11_wedges 3 (some .int)) (rmv 6 133) (Pw D (tyL g) (wC g a M) [.ref (a 0), .int x1, .int x2]) (WrQ D (wC g a M') (inA a 41) (.int r)) 0 0 (inA a 41) := by
  unfold f_X11_wedges at hf
  refine met_inW (A := (inA a 41)) (by decide) (Nat.le_of_ble_eq_true rfl) ?_
  intro p e s m args below meth c ls H locs C hP hS hl
  have C : Cx p s m args meth c cX11_wedges 3 (some .int) RX11 D (tyL g) := C
  obtain ⟨hx, hb, hr, hml, hown, ht, hlocks, hK, hN⟩ := id C
  have hl : lv_has ls 3 [(0, .ref (a 0)), (1, .int x1), (2, .int x2)] := hl
  refine lv_aload_n hx hb dX11_wedges_0 rfl (lv_at hl 0 rfl) ?_
  refine fg_X11_21 C hP dX11_wedges_1 ?_
  refine lv_iload_n hx hb dX11_wedges_4 rfl (lv_at hl 1 rfl) ?_
  obtain ⟨r1, e_1, hf⟩ := bns hf
  refine kR (rV (rest := []) C (c_X3_hasStall l D g a M x1 r1 e_1) ok_X3_hasStall wd_446 hP 2 (aC_2 g a M) rfl ⟨rfl, rfl, Nat.le_of_ble_eq_true rfl, Nat.le_of_ble_eq_true rfl⟩ rfl hl.1 rfl (Nat.le_of_ble_eq_true rfl) dX11_wedges_5 ⟨Nat.le_of_ble_eq_true rfl, Nat.le_of_ble_eq_true rfl⟩) ?_
  refine lv_if_eq (tgt := 18) hx hb dX11_wedges_8 (by decide) (fun c_2 => ?_) (fun c_2 => ?_)
  · have hf := ifp c_2 hf
    refine lv_iconst (v := (-1)) hx hb dX11_wedges_18 (by decide) ?_
    obtain ⟨rfl, rfl⟩ := Prod.mk.inj (Option.some.inj hf)
    exact retW C hP hS dX11_wedges_19
  · have hf := ifn c_2 hf
    refine lv_iload_n hx hb dX11_wedges_11 rfl (lv_at hl 2 rfl) ?_
    obtain ⟨r3, e_3, hf⟩ := bns hf
    refine kR (rS (rest := []) C (c_X11_isMonth l D (tyL g) (wC g a M) x2 r3 e_3) ok_X11_isMonth wd_327 hP ⟨rfl, rfl, Nat.le_of_ble_eq_true rfl, Nat.le_of_ble_eq_true rfl⟩ rfl hl.1 rfl (Nat.le_of_ble_eq_true rfl) dX11_wedges_12 ⟨Nat.le_of_ble_eq_true rfl, Nat.le_of_ble_eq_true rfl⟩) ?_
    refine lv_if_ne (tgt := 20) hx hb dX11_wedges_15 (by decide) (fun c_4 => ?_) (fun c_4 => ?_)
    · have hf := ifn c_4 hf
      refine lv_aload_n hx hb dX11_wedges_20 rfl (lv_at hl 0 rfl) ?_
      refine fg_X11_37 C hP dX11_wedges_21 ?_
      refine lv_iload_n hx hb dX11_wedges_24 rfl (lv_at hl 2 rfl) ?_
      obtain ⟨M5, e_5, hf⟩ := bns hf
      refine kWv (rV (rest := []) C (c_X4_measure l D g a hJ N M x2 M5 e_5) ok_X4_measure wd_451 hP 4 (aC_4 g a M) rfl ⟨rfl, rfl, Nat.le_of_ble_eq_true rfl, Nat.le_of_ble_eq_true rfl⟩ rfl hl.1 rfl (Nat.le_of_ble_eq_true rfl) dX11_wedges_25 ⟨Nat.le_of_ble_eq_true rfl, Nat.le_of_ble_eq_true rfl⟩) hS (fun H locs hP hS => ?_)
      refine lv_aload_n hx hb dX11_wedges_28 rfl (lv_at hl 0 rfl) ?_
      refine fg_X11_37 C hP dX11_wedges_29 ?_
      refine lv_iload_n hx hb dX11_wedges_32 rfl (lv_at hl 1 rfl) ?_
      obtain ⟨r6, e_6, hf⟩ := bns hf
      refine kR (rV (rest := []) C (c_X4_wedgesAt l D g a M5 x1 r6 e_6) ok_X4_wedgesAt wd_456 hP 4 (aC_4 g a M5) rfl ⟨rfl, rfl, Nat.le_of_ble_eq_true rfl, Nat.le_of_ble_eq_true rfl⟩ rfl hl.1 rfl (Nat.le_of_ble_eq_true rfl) dX11_wedges_33 ⟨Nat.le_of_ble_eq_true rfl, Nat.le_of_ble_eq_true rfl⟩) ?_
      obtain ⟨rfl, rfl⟩ := Prod.mk.inj (Option.some.inj hf)
      exact retW C hP hS dX11_wedges_36
    · have hf := ifp c_4 hf
      refine lv_iconst (v := (-1)) hx hb dX11_wedges_18 (by decide) ?_
      obtain ⟨rfl, rfl⟩ := Prod.mk.inj (Option.some.inj hf)
      exact retW C hP hS dX11_wedges_19
set_option maxHeartbeats 4000000 in
set_option maxRecDepth 100000 in
theorem c_X11_refusalOf (l : Launch) (D : va_G) (g : Nat → ClassId) (a : Nat → Nat) (M : Mem) (x1 : Int32) (x2 : Int32) (r : Int32) (hf : f_X11_refusalOf M x1 x2 = some r) : Met l yX11_refusalOf (cW yX11_refusalOf cX11_refusalOf 3 (some .int)) (rmv 2 42) (Pw D (tyL g) (wC g a M) [.ref (a 0), .int x1, .int x2]) (RdQ (.int r)) 0 0 nof := by
  unfold f_X11_refusalOf at hf
  refine met_in (by decide) (Nat.le_of_ble_eq_true rfl) ?_
  intro p e s m args below meth c ls C hP hl
  have C : Cx p s m args meth c cX11_refusalOf 3 (some .int) RX11 D (tyL g) := C
  obtain ⟨hx, hb, hr, hml, hown, ht, hlocks, hK, hN⟩ := id C
  have hl : lv_has ls 3 [(0, .ref (a 0)), (1, .int x1), (2, .int x2)] := hl
  refine lv_iload_n hx hb dX11_refusalOf_0 rfl (lv_at hl 1 rfl) ?_
  obtain ⟨r1, e_1, hf⟩ := bns hf
  refine kR (rS (rest := []) C (c_X11_isMonth l D (tyL g) (wC g a M) x1 r1 e_1) ok_X11_isMonth wd_327 hP ⟨rfl, rfl, Nat.le_of_ble_eq_true rfl, Nat.le_of_ble_eq_true rfl⟩ rfl hl.1 rfl (Nat.le_of_ble_eq_true rfl) dX11_refusalOf_1 ⟨Nat.le_of_ble_eq_true rfl, Nat.le_of_ble_eq_true rfl⟩) ?_
  refine lv_if_ne (tgt := 9) hx hb dX11_refusalOf_4 (by decide) (fun c_2 => ?_) (fun c_2 => ?_)
  · have hf := ifn c_2 hf
    refine lv_iload_n hx hb dX11_refusalOf_9 rfl (lv_at hl 2 rfl) ?_
    refine lv_if_ne (tgt := 16) hx hb dX11_refusalOf_10 (by decide) (fun c_3 => ?_) (fun c_3 => ?_)
    · have hf := ifn c_3 hf
      refine lv_aload_n hx hb dX11_refusalOf_16 rfl (lv_at hl 0 rfl) ?_
      refine fg_X11_21 C hP dX11_refusalOf_17 ?_
      obtain ⟨r4, e_4, hf⟩ := bns hf
      refine kR (rV (rest := []) C (c_X3_isBare l D g a M r4 e_4) ok_X3_isBare wd_330 hP 2 (aC_2 g a M) rfl ⟨rfl, rfl, Nat.le_of_ble_eq_true rfl, Nat.le_of_ble_eq_true rfl⟩ rfl hl.1 rfl (Nat.le_of_ble_eq_true rfl) dX11_refusalOf_20 ⟨Nat.le_of_ble_eq_true rfl, Nat.le_of_ble_eq_true rfl⟩) ?_
      refine lv_if_eq (tgt := 31) hx hb dX11_refusalOf_23 (by decide) (fun c_5 => ?_) (fun c_5 => ?_)
      · have hf := ifp c_5 hf
        refine lv_iconst (v := 0) hx hb dX11_refusalOf_31 (by decide) ?_
        obtain rfl := Option.some.inj hf
        exact retR C dX11_refusalOf_32
      · have hf := ifn c_5 hf
        refine lv_bipush (v := (-3)) hx hb dX11_refusalOf_26 (by decide) ?_
        refine lv_goto (tgt := 32) hx hb dX11_refusalOf_28 (by decide) ?_
        obtain rfl := Option.some.inj hf
        exact retR C dX11_refusalOf_32
    · have hf := ifp c_3 hf
      refine lv_bipush (v := (-2)) hx hb dX11_refusalOf_13 (by decide) ?_
      obtain rfl := Option.some.inj hf
      exact retR C dX11_refusalOf_15
  · have hf := ifp c_2 hf
    refine lv_iconst (v := (-1)) hx hb dX11_refusalOf_7 (by decide) ?_
    obtain rfl := Option.some.inj hf
    exact retR C dX11_refusalOf_8
set_option maxHeartbeats 4000000 in
set_option maxRecDepth 100000 in
theorem c_X11_best (l : Launch) (D : va_G) (g : Nat → ClassId) (a : Nat → Nat) (hJ : Inj a 41) (N : Nat) (M : Mem) (x1 : Int32) (x2 : Int32) (r : Int32) (M' : Mem) (hf : f_X11_best N M x1 x2 = some (r, M')) : Met l yX11_best (cW yX11_best cX11_best 5 (some .int)) (rmv 6 133) (Pw D (tyL g) (wC g a M) [.ref (a 0), .int x1, .int x2]) (WrQ D (wC g a M') (inA a 41) (.int r)) 0 0 (inA a 41) := by
  unfold f_X11_best at hf
  refine met_inW (A := (inA a 41)) (by decide) (Nat.le_of_ble_eq_true rfl) ?_
  intro p e s m args below meth c ls H locs C hP hS hl
  have C : Cx p s m args meth c cX11_best 5 (some .int) RX11 D (tyL g) := C
  obtain ⟨hx, hb, hr, hml, hown, ht, hlocks, hK, hN⟩ := id C
  have hl : lv_has ls 5 [(0, .ref (a 0)), (1, .int x1), (2, .int x2)] := hl
  refine lv_aload_n hx hb dX11_best_0 rfl (lv_at hl 0 rfl) ?_
  refine lv_iload_n hx hb dX11_best_1 rfl (lv_at hl 1 rfl) ?_
  refine lv_iload_n hx hb dX11_best_2 rfl (lv_at hl 2 rfl) ?_
  refine lv_iconst (v := 0) hx hb dX11_best_3 (by decide) ?_
  refine lv_iconst (v := 1) hx hb dX11_best_4 (by decide) ?_
  obtain ⟨r1, e_1, hf⟩ := bns hf
  refine kR (rS (rest := [.int x1, .ref (a 0)]) C (c_X11_isWithin l D (tyL g) (wC g a M) x2 0 1 r1 e_1) ok_X11_isWithin wd_265 hP ⟨rfl, rfl, Nat.le_of_ble_eq_true rfl, Nat.le_of_ble_eq_true rfl⟩ rfl hl.1 rfl (Nat.le_of_ble_eq_true rfl) dX11_best_5 ⟨Nat.le_of_ble_eq_true rfl, Nat.le_of_ble_eq_true rfl⟩) ?_
  obtain ⟨r2, e_2, hf⟩ := bns hf
  refine kR (rV (rest := []) C (c_X11_refusalOf l D g a M x1 r1 r2 e_2) ok_X11_refusalOf wd_465 hP 0 (aC_0 g a M) rfl ⟨rfl, rfl, Nat.le_of_ble_eq_true rfl, Nat.le_of_ble_eq_true rfl⟩ rfl hl.1 rfl (Nat.le_of_ble_eq_true rfl) dX11_best_8 ⟨Nat.le_of_ble_eq_true rfl, Nat.le_of_ble_eq_true rfl⟩) ?_
  refine lv_istore_n (lv' := [(3, .int r2), (0, .ref (a 0)), (1, .int x1), (2, .int x2)]) hx hb dX11_best_11 rfl hl (by decide) rfl (fun ls hl => ?_)
  refine lv_iload_n hx hb dX11_best_12 rfl (lv_at hl 0 rfl) ?_
  refine lv_if_eq (tgt := 18) hx hb dX11_best_13 (by decide) (fun c_3 => ?_) (fun c_3 => ?_)
  · have hf := ifp c_3 hf
    refine lv_aload_n hx hb dX11_best_18 rfl (lv_at hl 1 rfl) ?_
    refine fg_X11_37 C hP dX11_best_19 ?_
    refine lv_iload_n hx hb dX11_best_22 rfl (lv_at hl 2 rfl) ?_
    obtain ⟨M4, e_4, hf⟩ := bns hf
    refine kWv (rV (rest := []) C (c_X4_measure l D g a hJ N M x1 M4 e_4) ok_X4_measure wd_451 hP 4 (aC_4 g a M) rfl ⟨rfl, rfl, Nat.le_of_ble_eq_true rfl, Nat.le_of_ble_eq_true rfl⟩ rfl hl.1 rfl (Nat.le_of_ble_eq_true rfl) dX11_best_23 ⟨Nat.le_of_ble_eq_true rfl, Nat.le_of_ble_eq_true rfl⟩) hS (fun H locs hP hS => ?_)
    refine lv_aload_n hx hb dX11_best_26 rfl (lv_at hl 1 rfl) ?_
    refine fg_X11_37 C hP dX11_best_27 ?_
    obtain ⟨r5, e_5, hf⟩ := bns hf
    refine kR (rV (rest := []) C (c_X4_bestPlace l D g a N M4 r5 e_5) ok_X4_bestPlace wd_469 hP 4 (aC_4 g a M4) rfl ⟨rfl, rfl, Nat.le_of_ble_eq_true rfl, Nat.le_of_ble_eq_true rfl⟩ rfl hl.1 rfl (Nat.le_of_ble_eq_true rfl) dX11_best_30 ⟨Nat.le_of_ble_eq_true rfl, Nat.le_of_ble_eq_true rfl⟩) ?_
    refine lv_istore (lv' := [(4, .int r5), (3, .int r2), (0, .ref (a 0)), (1, .int x1), (2, .int x2)]) hx hb dX11_best_33 hl (by decide) rfl (fun ls hl => ?_)
    refine lv_iload_n hx hb dX11_best_35 rfl (lv_at hl 4 rfl) ?_
    refine lv_if_ne (tgt := 44) hx hb dX11_best_36 (by decide) (fun c_6 => ?_) (fun c_6 => ?_)
    · have hf := ifn c_6 hf
      refine lv_aload_n hx hb dX11_best_44 rfl (lv_at hl 2 rfl) ?_
      refine fg_X11_37 C hP dX11_best_45 ?_
      refine lv_iload hx hb dX11_best_48 (lv_at hl 0 rfl) ?_
      obtain ⟨r7, e_7, hf⟩ := bns hf
      refine kR (rV (rest := []) C (c_X4_wedgesAt l D g a M4 r5 r7 e_7) ok_X4_wedgesAt wd_456 hP 4 (aC_4 g a M4) rfl ⟨rfl, rfl, Nat.le_of_ble_eq_true rfl, Nat.le_of_ble_eq_true rfl⟩ rfl hl.1 rfl (Nat.le_of_ble_eq_true rfl) dX11_best_50 ⟨Nat.le_of_ble_eq_true rfl, Nat.le_of_ble_eq_true rfl⟩) ?_
      obtain ⟨rfl, rfl⟩ := Prod.mk.inj (Option.some.inj hf)
      exact retW C hP hS dX11_best_53
    · have hf := ifp c_6 hf
      refine lv_iload hx hb dX11_best_39 (lv_at hl 0 rfl) ?_
      refine lv_goto (tgt := 53) hx hb dX11_best_41 (by decide) ?_
      obtain ⟨rfl, rfl⟩ := Prod.mk.inj (Option.some.inj hf)
      exact retW C hP hS dX11_best_53
  · have hf := ifn c_3 hf
    refine lv_iload_n hx hb dX11_best_16 rfl (lv_at hl 0 rfl) ?_
    obtain ⟨rfl, rfl⟩ := Prod.mk.inj (Option.some.inj hf)
    exact retW C hP hS dX11_best_17
