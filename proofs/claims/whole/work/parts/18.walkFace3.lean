set_option maxHeartbeats 4000000 in
set_option maxRecDepth 100000 in
theorem c_X11_put (l : Launch) (D : va_G) (g : Nat → ClassId) (a : Nat → Nat) (hJ : Inj a 41) (M : Mem) (x1 : Int32) (x2 : Int32) (x3 : Int32) (r : Int32) (M' : Mem) (hf : f_X11_put M x1 x2 x3 = some (r, M')) : Met l yX11_put (cW yX11_put cX11_put 5 (some .int)) (rmv 2 42) (Pw D (tyL g) (wC g a M) [.ref (a 0), .int x1, .int x2, .int x3]) (WrQ D (wC g a M') (inA a 41) (.int r)) 0 0 (inA a 41) := by
  unfold f_X11_put at hf
  refine met_inW (A := (inA a 41)) (by decide) (Nat.le_of_ble_eq_true rfl) ?_
  intro p e s m args below meth c ls H locs C hP hS hl
  have C : Cx p s m args meth c cX11_put 5 (some .int) RX11 D (tyL g) := C
  obtain ⟨hx, hb, hr, hml, hown, ht, hlocks, hK, hN⟩ := id C
  have hl : lv_has ls 5 [(0, .ref (a 0)), (1, .int x1), (2, .int x2), (3, .int x3)] := hl
  refine lv_aload_n hx hb dX11_put_0 rfl (lv_at hl 0 rfl) ?_
  refine lv_iconst (v := 0) hx hb dX11_put_1 (by decide) ?_
  refine fp_X11_69 C hP (wC_D hJ) hS dX11_put_2 (fun H locs hP hS => ?_)
  obtain ⟨M1, eM1, hf⟩ := nms hf
  have hP : va_P D clL (wC g a M1) H := by rw [eM1]; exact hP
  refine lv_iload_n hx hb dX11_put_5 rfl (lv_at hl 1 rfl) ?_
  obtain ⟨r2, e_2, hf⟩ := bns hf
  refine kR (rS (rest := []) C (c_X11_isSheet l D (tyL g) (wC g a M1) x1 r2 e_2) ok_X11_isSheet wd_262 hP ⟨rfl, rfl, Nat.le_of_ble_eq_true rfl, Nat.le_of_ble_eq_true rfl⟩ rfl hl.1 rfl (Nat.le_of_ble_eq_true rfl) dX11_put_6 ⟨Nat.le_of_ble_eq_true rfl, Nat.le_of_ble_eq_true rfl⟩) ?_
  refine lv_if_ne (tgt := 14) hx hb dX11_put_9 (by decide) (fun c_3 => ?_) (fun c_3 => ?_)
  · have hf := ifn c_3 hf
    refine lv_aload_n hx hb dX11_put_14 rfl (lv_at hl 0 rfl) ?_
    refine fg_X11_65 C hP dX11_put_15 ?_
    refine lv_iload_n hx hb dX11_put_18 rfl (lv_at hl 1 rfl) ?_
    obtain ⟨h_4, hf⟩ := ifs hf
    refine va_aldq hx hb hK hP 8 2 (aC_8 g a M1) rfl h_4 dX11_put_19 ?_
    refine W.eq (g2 := F0 m 20 ls (.ref (a (9 + (x1.toNatClampNeg))) :: [])) rfl ?_
    refine lv_astore (lv' := [(4, .ref (a (9 + (x1.toNatClampNeg)))), (0, .ref (a 0)), (1, .int x1), (2, .int x2), (3, .int x3)]) hx hb dX11_put_20 hl (by decide) rfl (fun ls hl => ?_)
    refine lv_aload hx hb dX11_put_22 (lv_at hl 0 rfl) ?_
    obtain ⟨r5, e_5, hf⟩ := bns hf
    refine kR (rV (rest := []) C (c_X6_isNothing l D g a (x1.toNatClampNeg) (k4 h_4) M1 r5 e_5) ok_X6_isNothing wd_642 hP (9 + (x1.toNatClampNeg)) (aC_S g a M1 (k4 h_4)) rfl ⟨rfl, rfl, Nat.le_of_ble_eq_true rfl, Nat.le_of_ble_eq_true rfl⟩ rfl hl.1 rfl (Nat.le_of_ble_eq_true rfl) dX11_put_24 ⟨Nat.le_of_ble_eq_true rfl, Nat.le_of_ble_eq_true rfl⟩) ?_
    refine lv_if_eq (tgt := 36) hx hb dX11_put_27 (by decide) (fun c_6 => ?_) (fun c_6 => ?_)
    · have hf := ifp c_6 hf
      refine lv_aload hx hb dX11_put_36 (lv_at hl 0 rfl) ?_
      refine lv_iload_n hx hb dX11_put_38 rfl (lv_at hl 3 rfl) ?_
      obtain ⟨r7, e_7, hf⟩ := bns hf
      refine kR (rV (rest := []) C (c_X6_hasCell l D g a (x1.toNatClampNeg) (k4 h_4) M1 x2 r7 e_7) ok_X6_hasCell wd_643 hP (9 + (x1.toNatClampNeg)) (aC_S g a M1 (k4 h_4)) rfl ⟨rfl, rfl, Nat.le_of_ble_eq_true rfl, Nat.le_of_ble_eq_true rfl⟩ rfl hl.1 rfl (Nat.le_of_ble_eq_true rfl) dX11_put_39 ⟨Nat.le_of_ble_eq_true rfl, Nat.le_of_ble_eq_true rfl⟩) ?_
      refine lv_if_ne (tgt := 51) hx hb dX11_put_42 (by decide) (fun c_8 => ?_) (fun c_8 => ?_)
      · have hf := ifn c_8 hf
        refine lv_aload hx hb dX11_put_51 (lv_at hl 0 rfl) ?_
        refine lv_iload_n hx hb dX11_put_53 rfl (lv_at hl 3 rfl) ?_
        refine lv_iload_n hx hb dX11_put_54 rfl (lv_at hl 4 rfl) ?_
        obtain ⟨M9, e_9, hf⟩ := bns hf
        refine kWv (rV (rest := []) C (c_X6_write l D g a hJ (x1.toNatClampNeg) (k4 h_4) M1 x2 x3 M9 e_9) ok_X6_write wd_647 hP (9 + (x1.toNatClampNeg)) (aC_S g a M1 (k4 h_4)) rfl ⟨rfl, rfl, Nat.le_of_ble_eq_true rfl, Nat.le_of_ble_eq_true rfl⟩ rfl hl.1 rfl (Nat.le_of_ble_eq_true rfl) dX11_put_55 ⟨Nat.le_of_ble_eq_true rfl, Nat.le_of_ble_eq_true rfl⟩) hS (fun H locs hP hS => ?_)
        refine lv_iconst (v := 1) hx hb dX11_put_58 (by decide) ?_
        obtain ⟨rfl, rfl⟩ := Prod.mk.inj (Option.some.inj hf)
        exact retW C hP hS dX11_put_59
      · have hf := ifp c_8 hf
        refine lv_aload_n hx hb dX11_put_45 rfl (lv_at hl 1 rfl) ?_
        refine lv_iconst (v := 3) hx hb dX11_put_46 (by decide) ?_
        obtain ⟨q10, e_10, hf⟩ := bns hf
        refine kW (rV (rest := []) C (c_X11_failed l D g a hJ M1 3 q10.1 q10.2 e_10) ok_X11_failed wd_279 hP 0 (aC_0 g a M1) rfl ⟨rfl, rfl, Nat.le_of_ble_eq_true rfl, Nat.le_of_ble_eq_true rfl⟩ rfl hl.1 rfl (Nat.le_of_ble_eq_true rfl) dX11_put_47 ⟨Nat.le_of_ble_eq_true rfl, Nat.le_of_ble_eq_true rfl⟩) hS (fun H locs hP hS => ?_)
        obtain ⟨rfl, rfl⟩ := Prod.mk.inj (Option.some.inj hf)
        exact retW C hP hS dX11_put_50
    · have hf := ifn c_6 hf
      refine lv_aload_n hx hb dX11_put_30 rfl (lv_at hl 1 rfl) ?_
      refine lv_iconst (v := 1) hx hb dX11_put_31 (by decide) ?_
      obtain ⟨q11, e_11, hf⟩ := bns hf
      refine kW (rV (rest := []) C (c_X11_failed l D g a hJ M1 1 q11.1 q11.2 e_11) ok_X11_failed wd_279 hP 0 (aC_0 g a M1) rfl ⟨rfl, rfl, Nat.le_of_ble_eq_true rfl, Nat.le_of_ble_eq_true rfl⟩ rfl hl.1 rfl (Nat.le_of_ble_eq_true rfl) dX11_put_32 ⟨Nat.le_of_ble_eq_true rfl, Nat.le_of_ble_eq_true rfl⟩) hS (fun H locs hP hS => ?_)
      obtain ⟨rfl, rfl⟩ := Prod.mk.inj (Option.some.inj hf)
      exact retW C hP hS dX11_put_35
  · have hf := ifp c_3 hf
    refine lv_iconst (v := (-1)) hx hb dX11_put_12 (by decide) ?_
    obtain ⟨rfl, rfl⟩ := Prod.mk.inj (Option.some.inj hf)
    exact retW C hP hS dX11_put_13
set_option maxHeartbeats 4000000 in
set_option maxRecDepth 100000 in
theorem c_X11_cell (l : Launch) (D : va_G) (g : Nat → ClassId) (a : Nat → Nat) (hJ : Inj a 41) (M : Mem) (x1 : Int32) (x2 : Int32) (x3 : Int32) (r : Int64) (M' : Mem) (hf : f_X11_cell M x1 x2 x3 = some (r, M')) : Met l yX11_cell (cW yX11_cell cX11_cell 6 (some .long)) (rmv 2 42) (Pw D (tyL g) (wC g a M) [.ref (a 0), .int x1, .int x2, .int x3]) (WrQ D (wC g a M') (inA a 41) (.long r)) 0 0 (inA a 41) := by
  unfold f_X11_cell at hf
  refine met_inW (A := (inA a 41)) (by decide) (Nat.le_of_ble_eq_true rfl) ?_
  intro p e s m args below meth c ls H locs C hP hS hl
  have C : Cx p s m args meth c cX11_cell 6 (some .long) RX11 D (tyL g) := C
  obtain ⟨hx, hb, hr, hml, hown, ht, hlocks, hK, hN⟩ := id C
  have hl : lv_has ls 6 [(0, .ref (a 0)), (1, .int x1), (2, .int x2), (3, .int x3)] := hl
  refine lv_aload_n hx hb dX11_cell_0 rfl (lv_at hl 0 rfl) ?_
  refine lv_iconst (v := 0) hx hb dX11_cell_1 (by decide) ?_
  refine fp_X11_69 C hP (wC_D hJ) hS dX11_cell_2 (fun H locs hP hS => ?_)
  obtain ⟨M1, eM1, hf⟩ := nms hf
  have hP : va_P D clL (wC g a M1) H := by rw [eM1]; exact hP
  refine lv_iload_n hx hb dX11_cell_5 rfl (lv_at hl 1 rfl) ?_
  obtain ⟨r2, e_2, hf⟩ := bns hf
  refine kR (rS (rest := []) C (c_X11_isSheet l D (tyL g) (wC g a M1) x1 r2 e_2) ok_X11_isSheet wd_262 hP ⟨rfl, rfl, Nat.le_of_ble_eq_true rfl, Nat.le_of_ble_eq_true rfl⟩ rfl hl.1 rfl (Nat.le_of_ble_eq_true rfl) dX11_cell_6 ⟨Nat.le_of_ble_eq_true rfl, Nat.le_of_ble_eq_true rfl⟩) ?_
  refine lv_if_eq (tgt := 19) hx hb dX11_cell_9 (by decide) (fun c_3 => ?_) (fun c_3 => ?_)
  · have hf := ifp c_3 hf
    refine lv_ldc2 hx hb hown (ht _ wd_655) dX11_cell_19 ?_
    obtain ⟨rfl, rfl⟩ := Prod.mk.inj (Option.some.inj hf)
    exact retWl C hP hS dX11_cell_22
  · have hf := ifn c_3 hf
    refine lv_iload_n hx hb dX11_cell_12 rfl (lv_at hl 3 rfl) ?_
    obtain ⟨r4, e_4, hf⟩ := bns hf
    refine kR (rS (rest := []) C (c_X11_isSort l D (tyL g) (wC g a M1) x3 r4 e_4) ok_X11_isSort wd_268 hP ⟨rfl, rfl, Nat.le_of_ble_eq_true rfl, Nat.le_of_ble_eq_true rfl⟩ rfl hl.1 rfl (Nat.le_of_ble_eq_true rfl) dX11_cell_13 ⟨Nat.le_of_ble_eq_true rfl, Nat.le_of_ble_eq_true rfl⟩) ?_
    refine lv_if_ne (tgt := 23) hx hb dX11_cell_16 (by decide) (fun c_5 => ?_) (fun c_5 => ?_)
    · have hf := ifn c_5 hf
      refine lv_aload_n hx hb dX11_cell_23 rfl (lv_at hl 0 rfl) ?_
      refine fg_X11_65 C hP dX11_cell_24 ?_
      refine lv_iload_n hx hb dX11_cell_27 rfl (lv_at hl 1 rfl) ?_
      obtain ⟨h_6, hf⟩ := ifs hf
      refine va_aldq hx hb hK hP 8 2 (aC_8 g a M1) rfl h_6 dX11_cell_28 ?_
      refine W.eq (g2 := F0 m 29 ls (.ref (a (9 + (x1.toNatClampNeg))) :: [])) rfl ?_
      refine lv_astore (lv' := [(4, .ref (a (9 + (x1.toNatClampNeg)))), (0, .ref (a 0)), (1, .int x1), (2, .int x2), (3, .int x3)]) hx hb dX11_cell_29 hl (by decide) rfl (fun ls hl => ?_)
      refine lv_aload hx hb dX11_cell_31 (lv_at hl 0 rfl) ?_
      refine lv_iload_n hx hb dX11_cell_33 rfl (lv_at hl 4 rfl) ?_
      obtain ⟨r7, e_7, hf⟩ := bns hf
      refine kR (rV (rest := []) C (c_X6_faultAs l D g a (x1.toNatClampNeg) (k4 h_6) M1 x3 r7 e_7) ok_X6_faultAs wd_271 hP (9 + (x1.toNatClampNeg)) (aC_S g a M1 (k4 h_6)) rfl ⟨rfl, rfl, Nat.le_of_ble_eq_true rfl, Nat.le_of_ble_eq_true rfl⟩ rfl hl.1 rfl (Nat.le_of_ble_eq_true rfl) dX11_cell_34 ⟨Nat.le_of_ble_eq_true rfl, Nat.le_of_ble_eq_true rfl⟩) ?_
      refine lv_istore (lv' := [(5, .int r7), (4, .ref (a (9 + (x1.toNatClampNeg)))), (0, .ref (a 0)), (1, .int x1), (2, .int x2), (3, .int x3)]) hx hb dX11_cell_37 hl (by decide) rfl (fun ls hl => ?_)
      refine lv_iload hx hb dX11_cell_39 (lv_at hl 0 rfl) ?_
      refine lv_if_ne (tgt := 56) hx hb dX11_cell_41 (by decide) (fun c_8 => ?_) (fun c_8 => ?_)
      · have hf := ifn c_8 hf
        refine lv_aload_n hx hb dX11_cell_56 rfl (lv_at hl 2 rfl) ?_
        refine lv_iload hx hb dX11_cell_57 (lv_at hl 0 rfl) ?_
        refine fp_X11_69 C hP (wC_D hJ) hS dX11_cell_59 (fun H locs hP hS => ?_)
        obtain ⟨M9, eM9, hf⟩ := nms hf
        have hP : va_P D clL (wC g a M9) H := by rw [eM9]; exact hP
        refine lv_iload hx hb dX11_cell_62 (lv_at hl 0 rfl) ?_
        refine lv_if_eq (tgt := 73) hx hb dX11_cell_64 (by decide) (fun q => absurd q c_8) (fun _ => ?_)
        refine lv_ldc2 hx hb hown (ht _ wd_655) dX11_cell_67 ?_
        refine lv_goto (tgt := 81) hx hb dX11_cell_70 (by decide) ?_
        obtain ⟨rfl, rfl⟩ := Prod.mk.inj (Option.some.inj hf)
        exact retWl C hP hS dX11_cell_81
      · have hf := ifp c_8 hf
        refine lv_aload hx hb dX11_cell_44 (lv_at hl 1 rfl) ?_
        refine lv_iload_n hx hb dX11_cell_46 rfl (lv_at hl 4 rfl) ?_
        obtain ⟨r10, e_10, hf⟩ := bns hf
        refine kR (rV (rest := []) C (c_X6_hasCell l D g a (x1.toNatClampNeg) (k4 h_6) M1 x2 r10 e_10) ok_X6_hasCell wd_643 hP (9 + (x1.toNatClampNeg)) (aC_S g a M1 (k4 h_6)) rfl ⟨rfl, rfl, Nat.le_of_ble_eq_true rfl, Nat.le_of_ble_eq_true rfl⟩ rfl hl.1 rfl (Nat.le_of_ble_eq_true rfl) dX11_cell_47 ⟨Nat.le_of_ble_eq_true rfl, Nat.le_of_ble_eq_true rfl⟩) ?_
        refine lv_if_ne (tgt := 56) hx hb dX11_cell_50 (by decide) (fun c_11 => ?_) (fun c_11 => ?_)
        · have hf := ifn c_11 hf
          refine lv_aload_n hx hb dX11_cell_56 rfl (lv_at hl 2 rfl) ?_
          refine lv_iload hx hb dX11_cell_57 (lv_at hl 0 rfl) ?_
          refine fp_X11_69 C hP (wC_D hJ) hS dX11_cell_59 (fun H locs hP hS => ?_)
          obtain ⟨M12, eM12, hf⟩ := nms hf
          have hP : va_P D clL (wC g a M12) H := by rw [eM12]; exact hP
          refine lv_iload hx hb dX11_cell_62 (lv_at hl 0 rfl) ?_
          refine lv_if_eq (tgt := 73) hx hb dX11_cell_64 (by decide) (fun _ => ?_) (fun q => absurd c_8 q)
          refine lv_aload hx hb dX11_cell_73 (lv_at hl 1 rfl) ?_
          refine fg_X11_256 (k4 h_6) C hP dX11_cell_75 ?_
          refine lv_iload_n hx hb dX11_cell_78 rfl (lv_at hl 4 rfl) ?_
          obtain ⟨h_13, hf⟩ := ifs hf
          refine va_iald hx hb hK hP (13 + (x1.toNatClampNeg)) 0 (aC_T g a M12 (k4 h_6)) rfl h_13 dX11_cell_79 ?_
          refine lv_i2l (v := (M12 (13 + (x1.toNatClampNeg)) x2.toNatClampNeg).toInt64) hx hb dX11_cell_80 rfl ?_
          obtain ⟨rfl, rfl⟩ := Prod.mk.inj (Option.some.inj hf)
          exact retWl C hP hS dX11_cell_81
        · have hf := ifp c_11 hf
          refine lv_iconst (v := 3) hx hb dX11_cell_53 (by decide) ?_
          refine lv_istore (lv' := [(5, .int 3), (4, .ref (a (9 + (x1.toNatClampNeg)))), (0, .ref (a 0)), (1, .int x1), (2, .int x2), (3, .int x3)]) hx hb dX11_cell_54 hl (by decide) rfl (fun ls hl => ?_)
          refine lv_aload_n hx hb dX11_cell_56 rfl (lv_at hl 2 rfl) ?_
          refine lv_iload hx hb dX11_cell_57 (lv_at hl 0 rfl) ?_
          refine fp_X11_69 C hP (wC_D hJ) hS dX11_cell_59 (fun H locs hP hS => ?_)
          obtain ⟨M14, eM14, hf⟩ := nms hf
          have hP : va_P D clL (wC g a M14) H := by rw [eM14]; exact hP
          refine lv_iload hx hb dX11_cell_62 (lv_at hl 0 rfl) ?_
          refine lv_if_eq (tgt := 73) hx hb dX11_cell_64 (by decide) (fun q => absurd q (by decide)) (fun _ => ?_)
          refine lv_ldc2 hx hb hown (ht _ wd_655) dX11_cell_67 ?_
          refine lv_goto (tgt := 81) hx hb dX11_cell_70 (by decide) ?_
          obtain ⟨rfl, rfl⟩ := Prod.mk.inj (Option.some.inj hf)
          exact retWl C hP hS dX11_cell_81
    · have hf := ifp c_5 hf
      refine lv_ldc2 hx hb hown (ht _ wd_655) dX11_cell_19 ?_
      obtain ⟨rfl, rfl⟩ := Prod.mk.inj (Option.some.inj hf)
      exact retWl C hP hS dX11_cell_22
set_option maxHeartbeats 4000000 in
set_option maxRecDepth 100000 in
theorem c_X11_copy (l : Launch) (D : va_G) (g : Nat → ClassId) (a : Nat → Nat) (hJ : Inj a 41) (M : Mem) (x1 : Int32) (x2 : Int32) (x3 : Int32) (x4 : Int32) (x5 : Int32) (r : Int32) (M' : Mem) (hf : f_X11_copy M x1 x2 x3 x4 x5 = some (r, M')) : Met l yX11_copy (cW yX11_copy cX11_copy 8 (some .int)) (rmv 2 42) (Pw D (tyL g) (wC g a M) [.ref (a 0), .int x1, .int x2, .int x3, .int x4, .int x5]) (WrQ D (wC g a M') (inA a 41) (.int r)) 0 0 (inA a 41) := by
  unfold f_X11_copy at hf
  refine met_inW (A := (inA a 41)) (by decide) (Nat.le_of_ble_eq_true rfl) ?_
  intro p e s m args below meth c ls H locs C hP hS hl
  have C : Cx p s m args meth c cX11_copy 8 (some .int) RX11 D (tyL g) := C
  obtain ⟨hx, hb, hr, hml, hown, ht, hlocks, hK, hN⟩ := id C
  have hl : lv_has ls 8 [(0, .ref (a 0)), (1, .int x1), (2, .int x2), (3, .int x3), (4, .int x4), (5, .int x5)] := hl
  refine lv_aload_n hx hb dX11_copy_0 rfl (lv_at hl 0 rfl) ?_
  refine lv_iconst (v := 0) hx hb dX11_copy_1 (by decide) ?_
  refine fp_X11_69 C hP (wC_D hJ) hS dX11_copy_2 (fun H locs hP hS => ?_)
  obtain ⟨M1, eM1, hf⟩ := nms hf
  have hP : va_P D clL (wC g a M1) H := by rw [eM1]; exact hP
  refine lv_iload_n hx hb dX11_copy_5 rfl (lv_at hl 1 rfl) ?_
  obtain ⟨r2, e_2, hf⟩ := bns hf
  refine kR (rS (rest := []) C (c_X11_isSheet l D (tyL g) (wC g a M1) x1 r2 e_2) ok_X11_isSheet wd_262 hP ⟨rfl, rfl, Nat.le_of_ble_eq_true rfl, Nat.le_of_ble_eq_true rfl⟩ rfl hl.1 rfl (Nat.le_of_ble_eq_true rfl) dX11_copy_6 ⟨Nat.le_of_ble_eq_true rfl, Nat.le_of_ble_eq_true rfl⟩) ?_
  refine lv_if_eq (tgt := 19) hx hb dX11_copy_9 (by decide) (fun c_3 => ?_) (fun c_3 => ?_)
  · have hf := ifp c_3 hf
    refine lv_iconst (v := (-1)) hx hb dX11_copy_19 (by decide) ?_
    obtain ⟨rfl, rfl⟩ := Prod.mk.inj (Option.some.inj hf)
    exact retW C hP hS dX11_copy_20
  · have hf := ifn c_3 hf
    refine lv_iload_n hx hb dX11_copy_12 rfl (lv_at hl 3 rfl) ?_
    obtain ⟨r4, e_4, hf⟩ := bns hf
    refine kR (rS (rest := []) C (c_X11_isSheet l D (tyL g) (wC g a M1) x3 r4 e_4) ok_X11_isSheet wd_262 hP ⟨rfl, rfl, Nat.le_of_ble_eq_true rfl, Nat.le_of_ble_eq_true rfl⟩ rfl hl.1 rfl (Nat.le_of_ble_eq_true rfl) dX11_copy_13 ⟨Nat.le_of_ble_eq_true rfl, Nat.le_of_ble_eq_true rfl⟩) ?_
    refine lv_if_ne (tgt := 21) hx hb dX11_copy_16 (by decide) (fun c_5 => ?_) (fun c_5 => ?_)
    · have hf := ifn c_5 hf
      refine lv_aload_n hx hb dX11_copy_21 rfl (lv_at hl 0 rfl) ?_
      refine fg_X11_65 C hP dX11_copy_22 ?_
      refine lv_iload_n hx hb dX11_copy_25 rfl (lv_at hl 1 rfl) ?_
      obtain ⟨h_6, hf⟩ := ifs hf
      refine va_aldq hx hb hK hP 8 2 (aC_8 g a M1) rfl h_6 dX11_copy_26 ?_
      refine W.eq (g2 := F0 m 27 ls (.ref (a (9 + (x1.toNatClampNeg))) :: [])) rfl ?_
      refine lv_astore (lv' := [(6, .ref (a (9 + (x1.toNatClampNeg)))), (0, .ref (a 0)), (1, .int x1), (2, .int x2), (3, .int x3), (4, .int x4), (5, .int x5)]) hx hb dX11_copy_27 hl (by decide) rfl (fun ls hl => ?_)
      refine lv_aload_n hx hb dX11_copy_29 rfl (lv_at hl 1 rfl) ?_
      refine fg_X11_65 C hP dX11_copy_30 ?_
      refine lv_iload_n hx hb dX11_copy_33 rfl (lv_at hl 4 rfl) ?_
      obtain ⟨h_7, hf⟩ := ifs hf
      refine va_aldq hx hb hK hP 8 2 (aC_8 g a M1) rfl h_7 dX11_copy_34 ?_
      refine W.eq (g2 := F0 m 35 ls (.ref (a (9 + (x3.toNatClampNeg))) :: [])) rfl ?_
      refine lv_astore (lv' := [(7, .ref (a (9 + (x3.toNatClampNeg)))), (6, .ref (a (9 + (x1.toNatClampNeg)))), (0, .ref (a 0)), (1, .int x1), (2, .int x2), (3, .int x3), (4, .int x4), (5, .int x5)]) hx hb dX11_copy_35 hl (by decide) rfl (fun ls hl => ?_)
      refine lv_aload hx hb dX11_copy_37 (lv_at hl 1 rfl) ?_
      obtain ⟨r8, e_8, hf⟩ := bns hf
      refine kR (rV (rest := []) C (c_X6_isNothing l D g a (x1.toNatClampNeg) (k4 h_6) M1 r8 e_8) ok_X6_isNothing wd_642 hP (9 + (x1.toNatClampNeg)) (aC_S g a M1 (k4 h_6)) rfl ⟨rfl, rfl, Nat.le_of_ble_eq_true rfl, Nat.le_of_ble_eq_true rfl⟩ rfl hl.1 rfl (Nat.le_of_ble_eq_true rfl) dX11_copy_39 ⟨Nat.le_of_ble_eq_true rfl, Nat.le_of_ble_eq_true rfl⟩) ?_
      refine lv_if_ne (tgt := 53) hx hb dX11_copy_42 (by decide) (fun c_9 => ?_) (fun c_9 => ?_)
      · have hf := ifn c_9 hf
        refine lv_aload_n hx hb dX11_copy_53 rfl (lv_at hl 2 rfl) ?_
        refine lv_iconst (v := 1) hx hb dX11_copy_54 (by decide) ?_
        obtain ⟨q10, e_10, hf⟩ := bns hf
        refine kW (rV (rest := []) C (c_X11_failed l D g a hJ M1 1 q10.1 q10.2 e_10) ok_X11_failed wd_279 hP 0 (aC_0 g a M1) rfl ⟨rfl, rfl, Nat.le_of_ble_eq_true rfl, Nat.le_of_ble_eq_true rfl⟩ rfl hl.1 rfl (Nat.le_of_ble_eq_true rfl) dX11_copy_55 ⟨Nat.le_of_ble_eq_true rfl, Nat.le_of_ble_eq_true rfl⟩) hS (fun H locs hP hS => ?_)
        obtain ⟨rfl, rfl⟩ := Prod.mk.inj (Option.some.inj hf)
        exact retW C hP hS dX11_copy_58
      · have hf := ifp c_9 hf
        refine lv_aload hx hb dX11_copy_45 (lv_at hl 0 rfl) ?_
        obtain ⟨r11, e_11, hf⟩ := bns hf
        refine kR (rV (rest := []) C (c_X6_isNothing l D g a (x3.toNatClampNeg) (k4 h_7) M1 r11 e_11) ok_X6_isNothing wd_642 hP (9 + (x3.toNatClampNeg)) (aC_S g a M1 (k4 h_7)) rfl ⟨rfl, rfl, Nat.le_of_ble_eq_true rfl, Nat.le_of_ble_eq_true rfl⟩ rfl hl.1 rfl (Nat.le_of_ble_eq_true rfl) dX11_copy_47 ⟨Nat.le_of_ble_eq_true rfl, Nat.le_of_ble_eq_true rfl⟩) ?_
        refine lv_if_eq (tgt := 59) hx hb dX11_copy_50 (by decide) (fun c_12 => ?_) (fun c_12 => ?_)
        · have hf := ifp c_12 hf
          refine lv_aload hx hb dX11_copy_59 (lv_at hl 1 rfl) ?_
          refine fg_X11_259 (k4 h_6) C hP dX11_copy_61 ?_
          refine lv_aload hx hb dX11_copy_64 (lv_at hl 0 rfl) ?_
          refine fg_X11_259 (k4 h_7) C hP dX11_copy_66 ?_
          refine lv_icmp_eq (tgt := 78) hx hb dX11_copy_69 (by decide) (fun c_13 => ?_) (fun c_13 => ?_)
          · have hf := ifp c_13 hf
            refine lv_iload hx hb dX11_copy_78 (lv_at hl 7 rfl) ?_
            refine lv_if_lt (tgt := 106) hx hb dX11_copy_80 (by decide) (fun c_14 => ?_) (fun c_14 => ?_)
            · have hf := ifp c_14 hf
              refine lv_aload_n hx hb dX11_copy_106 rfl (lv_at hl 2 rfl) ?_
              refine lv_iconst (v := 3) hx hb dX11_copy_107 (by decide) ?_
              obtain ⟨q15, e_15, hf⟩ := bns hf
              refine kW (rV (rest := []) C (c_X11_failed l D g a hJ M1 3 q15.1 q15.2 e_15) ok_X11_failed wd_279 hP 0 (aC_0 g a M1) rfl ⟨rfl, rfl, Nat.le_of_ble_eq_true rfl, Nat.le_of_ble_eq_true rfl⟩ rfl hl.1 rfl (Nat.le_of_ble_eq_true rfl) dX11_copy_108 ⟨Nat.le_of_ble_eq_true rfl, Nat.le_of_ble_eq_true rfl⟩) hS (fun H locs hP hS => ?_)
              obtain ⟨rfl, rfl⟩ := Prod.mk.inj (Option.some.inj hf)
              exact retW C hP hS dX11_copy_111
            · have hf := ifn c_14 hf
              refine lv_aload hx hb dX11_copy_83 (lv_at hl 1 rfl) ?_
              refine lv_iload_n hx hb dX11_copy_85 rfl (lv_at hl 4 rfl) ?_
              refine lv_iload hx hb dX11_copy_86 (lv_at hl 7 rfl) ?_
              obtain ⟨r16, e_16, hf⟩ := bns hf
              refine kR (rV (rest := []) C (c_X6_hasCells l D g a (x1.toNatClampNeg) (k4 h_6) M1 x2 x5 r16 e_16) ok_X6_hasCells wd_283 hP (9 + (x1.toNatClampNeg)) (aC_S g a M1 (k4 h_6)) rfl ⟨rfl, rfl, Nat.le_of_ble_eq_true rfl, Nat.le_of_ble_eq_true rfl⟩ rfl hl.1 rfl (Nat.le_of_ble_eq_true rfl) dX11_copy_88 ⟨Nat.le_of_ble_eq_true rfl, Nat.le_of_ble_eq_true rfl⟩) ?_
              refine lv_if_eq (tgt := 106) hx hb dX11_copy_91 (by decide) (fun c_17 => ?_) (fun c_17 => ?_)
              · have hf := ifp c_17 hf
                refine lv_aload_n hx hb dX11_copy_106 rfl (lv_at hl 2 rfl) ?_
                refine lv_iconst (v := 3) hx hb dX11_copy_107 (by decide) ?_
                obtain ⟨q18, e_18, hf⟩ := bns hf
                refine kW (rV (rest := []) C (c_X11_failed l D g a hJ M1 3 q18.1 q18.2 e_18) ok_X11_failed wd_279 hP 0 (aC_0 g a M1) rfl ⟨rfl, rfl, Nat.le_of_ble_eq_true rfl, Nat.le_of_ble_eq_true rfl⟩ rfl hl.1 rfl (Nat.le_of_ble_eq_true rfl) dX11_copy_108 ⟨Nat.le_of_ble_eq_true rfl, Nat.le_of_ble_eq_true rfl⟩) hS (fun H locs hP hS => ?_)
                obtain ⟨rfl, rfl⟩ := Prod.mk.inj (Option.some.inj hf)
                exact retW C hP hS dX11_copy_111
              · have hf := ifn c_17 hf
                refine lv_aload hx hb dX11_copy_94 (lv_at hl 0 rfl) ?_
                refine lv_iload hx hb dX11_copy_96 (lv_at hl 6 rfl) ?_
                refine lv_iload hx hb dX11_copy_98 (lv_at hl 7 rfl) ?_
                obtain ⟨r19, e_19, hf⟩ := bns hf
                refine kR (rV (rest := []) C (c_X6_hasCells l D g a (x3.toNatClampNeg) (k4 h_7) M1 x4 x5 r19 e_19) ok_X6_hasCells wd_283 hP (9 + (x3.toNatClampNeg)) (aC_S g a M1 (k4 h_7)) rfl ⟨rfl, rfl, Nat.le_of_ble_eq_true rfl, Nat.le_of_ble_eq_true rfl⟩ rfl hl.1 rfl (Nat.le_of_ble_eq_true rfl) dX11_copy_100 ⟨Nat.le_of_ble_eq_true rfl, Nat.le_of_ble_eq_true rfl⟩) ?_
                refine lv_if_ne (tgt := 112) hx hb dX11_copy_103 (by decide) (fun c_20 => ?_) (fun c_20 => ?_)
                · have hf := ifn c_20 hf
                  refine lv_aload hx hb dX11_copy_112 (lv_at hl 1 rfl) ?_
                  refine fg_X11_256 (k4 h_6) C hP dX11_copy_114 ?_
                  refine lv_iload_n hx hb dX11_copy_117 rfl (lv_at hl 4 rfl) ?_
                  refine lv_aload hx hb dX11_copy_118 (lv_at hl 0 rfl) ?_
                  refine fg_X11_256 (k4 h_7) C hP dX11_copy_120 ?_
                  refine lv_iload hx hb dX11_copy_123 (lv_at hl 6 rfl) ?_
                  refine lv_iload hx hb dX11_copy_125 (lv_at hl 7 rfl) ?_
                  obtain ⟨h_21, hf⟩ := ifs hf
                  refine va_copyi hx hb (hml.trans hl.1.symm) hown (ht _ wd_660) (ht _ wd_662) (ht _ wd_661) (ht _ wd_15) hK hP (wC_D hJ) hS (13 + (x1.toNatClampNeg)) (13 + (x3.toNatClampNeg)) 0 0 (aC_T g a M1 (k4 h_6)) (aC_T g a M1 (k4 h_7)) rfl rfl rfl h_21.1 h_21.2.1 h_21.2.2.1 h_21.2.2.2.1 h_21.2.2.2.2 (fun _ _ => rfl) (Nat.le_of_ble_eq_true rfl) (Nat.le_of_ble_eq_true rfl) dX11_copy_127 (fun H locs hP _ hS => ?_)
                  obtain ⟨M22, eM22, hf⟩ := nms hf
                  have hP : va_P D clL (wC g a M22) H := by rw [eM22]; rw [sC_T g a M1 (k4 h_7)] at hP; exact hP
                  refine lv_iload hx hb dX11_copy_130 (lv_at hl 7 rfl) ?_
                  obtain ⟨rfl, rfl⟩ := Prod.mk.inj (Option.some.inj hf)
                  exact retW C hP hS dX11_copy_132
                · have hf := ifp c_20 hf
                  refine lv_aload_n hx hb dX11_copy_106 rfl (lv_at hl 2 rfl) ?_
                  refine lv_iconst (v := 3) hx hb dX11_copy_107 (by decide) ?_
                  obtain ⟨q23, e_23, hf⟩ := bns hf
                  refine kW (rV (rest := []) C (c_X11_failed l D g a hJ M1 3 q23.1 q23.2 e_23) ok_X11_failed wd_279 hP 0 (aC_0 g a M1) rfl ⟨rfl, rfl, Nat.le_of_ble_eq_true rfl, Nat.le_of_ble_eq_true rfl⟩ rfl hl.1 rfl (Nat.le_of_ble_eq_true rfl) dX11_copy_108 ⟨Nat.le_of_ble_eq_true rfl, Nat.le_of_ble_eq_true rfl⟩) hS (fun H locs hP hS => ?_)
                  obtain ⟨rfl, rfl⟩ := Prod.mk.inj (Option.some.inj hf)
                  exact retW C hP hS dX11_copy_111
          · have hf := ifn c_13 hf
            refine lv_aload_n hx hb dX11_copy_72 rfl (lv_at hl 2 rfl) ?_
            refine lv_iconst (v := 2) hx hb dX11_copy_73 (by decide) ?_
            obtain ⟨q24, e_24, hf⟩ := bns hf
            refine kW (rV (rest := []) C (c_X11_failed l D g a hJ M1 2 q24.1 q24.2 e_24) ok_X11_failed wd_279 hP 0 (aC_0 g a M1) rfl ⟨rfl, rfl, Nat.le_of_ble_eq_true rfl, Nat.le_of_ble_eq_true rfl⟩ rfl hl.1 rfl (Nat.le_of_ble_eq_true rfl) dX11_copy_74 ⟨Nat.le_of_ble_eq_true rfl, Nat.le_of_ble_eq_true rfl⟩) hS (fun H locs hP hS => ?_)
            obtain ⟨rfl, rfl⟩ := Prod.mk.inj (Option.some.inj hf)
            exact retW C hP hS dX11_copy_77
        · have hf := ifn c_12 hf
          refine lv_aload_n hx hb dX11_copy_53 rfl (lv_at hl 2 rfl) ?_
          refine lv_iconst (v := 1) hx hb dX11_copy_54 (by decide) ?_
          obtain ⟨q25, e_25, hf⟩ := bns hf
          refine kW (rV (rest := []) C (c_X11_failed l D g a hJ M1 1 q25.1 q25.2 e_25) ok_X11_failed wd_279 hP 0 (aC_0 g a M1) rfl ⟨rfl, rfl, Nat.le_of_ble_eq_true rfl, Nat.le_of_ble_eq_true rfl⟩ rfl hl.1 rfl (Nat.le_of_ble_eq_true rfl) dX11_copy_55 ⟨Nat.le_of_ble_eq_true rfl, Nat.le_of_ble_eq_true rfl⟩) hS (fun H locs hP hS => ?_)
          obtain ⟨rfl, rfl⟩ := Prod.mk.inj (Option.some.inj hf)
          exact retW C hP hS dX11_copy_58
    · have hf := ifp c_5 hf
      refine lv_iconst (v := (-1)) hx hb dX11_copy_19 (by decide) ?_
      obtain ⟨rfl, rfl⟩ := Prod.mk.inj (Option.some.inj hf)
      exact retW C hP hS dX11_copy_20
set_option maxHeartbeats 4000000 in
set_option maxRecDepth 100000 in
theorem c_X11_tell (l : Launch) (D : va_G) (g : Nat → ClassId) (a : Nat → Nat) (hJ : Inj a 41) (M : Mem) (x1 : Int32) (r : Int32) (M' : Mem) (hf : f_X11_tell M x1 = some (r, M')) : Met l yX11_tell (cW yX11_tell cX11_tell 2 (some .int)) (rmv 5 110) (Pw D (tyL g) (wC g a M) [.ref (a 0), .int x1]) (WrQ D (wC g a M') (inA a 41) (.int r)) 0 0 (inA a 41) := by
  unfold f_X11_tell at hf
  refine met_inW (A := (inA a 41)) (by decide) (Nat.le_of_ble_eq_true rfl) ?_
  intro p e s m args below meth c ls H locs C hP hS hl
  have C : Cx p s m args meth c cX11_tell 2 (some .int) RX11 D (tyL g) := C
  obtain ⟨hx, hb, hr, hml, hown, ht, hlocks, hK, hN⟩ := id C
  have hl : lv_has ls 2 [(0, .ref (a 0)), (1, .int x1)] := hl
  refine lv_aload_n hx hb dX11_tell_0 rfl (lv_at hl 0 rfl) ?_
  refine fg_X11_21 C hP dX11_tell_1 ?_
  refine lv_iload_n hx hb dX11_tell_4 rfl (lv_at hl 1 rfl) ?_
  obtain ⟨r1, e_1, hf⟩ := bns hf
  refine kR (rV (rest := []) C (c_X3_has l D g a M x1 r1 e_1) ok_X3_has wd_319 hP 2 (aC_2 g a M) rfl ⟨rfl, rfl, Nat.le_of_ble_eq_true rfl, Nat.le_of_ble_eq_true rfl⟩ rfl hl.1 rfl (Nat.le_of_ble_eq_true rfl) dX11_tell_5 ⟨Nat.le_of_ble_eq_true rfl, Nat.le_of_ble_eq_true rfl⟩) ?_
  refine lv_if_eq (tgt := 38) hx hb dX11_tell_8 (by decide) (fun c_2 => ?_) (fun c_2 => ?_)
  · have hf := ifp c_2 hf
    refine lv_iconst (v := (-1)) hx hb dX11_tell_38 (by decide) ?_
    obtain ⟨rfl, rfl⟩ := Prod.mk.inj (Option.some.inj hf)
    exact retW C hP hS dX11_tell_39
  · have hf := ifn c_2 hf
    refine lv_aload_n hx hb dX11_tell_11 rfl (lv_at hl 0 rfl) ?_
    refine fg_X11_21 C hP dX11_tell_12 ?_
    refine lv_iload_n hx hb dX11_tell_15 rfl (lv_at hl 1 rfl) ?_
    obtain ⟨r3, e_3, hf⟩ := bns hf
    refine kR (rV (rest := []) C (c_X3_bodyOf l D g a M x1 r3 e_3) ok_X3_bodyOf wd_667 hP 2 (aC_2 g a M) rfl ⟨rfl, rfl, Nat.le_of_ble_eq_true rfl, Nat.le_of_ble_eq_true rfl⟩ rfl hl.1 rfl (Nat.le_of_ble_eq_true rfl) dX11_tell_16 ⟨Nat.le_of_ble_eq_true rfl, Nat.le_of_ble_eq_true rfl⟩) ?_
    refine lv_aload_n hx hb dX11_tell_19 rfl (lv_at hl 0 rfl) ?_
    refine fg_X11_21 C hP dX11_tell_20 ?_
    refine fg_X11_113 C hP dX11_tell_23 ?_
    refine lv_iload_n hx hb dX11_tell_26 rfl (lv_at hl 1 rfl) ?_
    obtain ⟨h_4, hf⟩ := ifs hf
    refine va_iald hx hb hK hP 22 0 (aC_22 g a M) rfl h_4 dX11_tell_27 ?_
    refine lv_aload_n hx hb dX11_tell_28 rfl (lv_at hl 0 rfl) ?_
    refine fg_X11_12 C hP dX11_tell_29 ?_
    by_cases c_5 : r3 = 0
    · have hf := ifp c_5 hf
      rw [c_5]
      obtain ⟨q6, e_6, hf⟩ := bns hf
      refine kW (rU_272_X11_X7_telling_0 (rest := []) C (c_X7_telling_0 l D g a hJ M (M 22 x1.toNatClampNeg) q6.1 q6.2 e_6) hP ⟨rfl, rfl, Nat.le_of_ble_eq_true rfl, Nat.le_of_ble_eq_true rfl⟩ rfl hl.1 rfl (Nat.le_of_ble_eq_true rfl) dX11_tell_32 ⟨Nat.le_of_ble_eq_true rfl, Nat.le_of_ble_eq_true rfl⟩) hS (fun H locs hP hS => ?_)
      refine lv_goto (tgt := 39) hx hb dX11_tell_35 (by decide) ?_
      obtain ⟨rfl, rfl⟩ := Prod.mk.inj (Option.some.inj hf)
      exact retW C hP hS dX11_tell_39
    · have hf := ifn c_5 hf
      by_cases c_7 : r3 = 1
      · have hf := ifp c_7 hf
        rw [c_7]
        obtain ⟨q8, e_8, hf⟩ := bns hf
        refine kW (rU_272_X11_X0_telling_1 (rest := []) C (c_X0_telling_1 l D g a hJ M (M 22 x1.toNatClampNeg) q8.1 q8.2 e_8) hP ⟨rfl, rfl, Nat.le_of_ble_eq_true rfl, Nat.le_of_ble_eq_true rfl⟩ rfl hl.1 rfl (Nat.le_of_ble_eq_true rfl) dX11_tell_32 ⟨Nat.le_of_ble_eq_true rfl, Nat.le_of_ble_eq_true rfl⟩) hS (fun H locs hP hS => ?_)
        refine lv_goto (tgt := 39) hx hb dX11_tell_35 (by decide) ?_
        obtain ⟨rfl, rfl⟩ := Prod.mk.inj (Option.some.inj hf)
        exact retW C hP hS dX11_tell_39
      · have hf := ifn c_7 hf
        by_cases c_9 : r3 = 2
        · have hf := ifp c_9 hf
          rw [c_9]
          obtain ⟨q10, e_10, hf⟩ := bns hf
          refine kW (rU_272_X11_X1_telling_2 (rest := []) C (c_X1_telling_2 l D g a hJ M (M 22 x1.toNatClampNeg) q10.1 q10.2 e_10) hP ⟨rfl, rfl, Nat.le_of_ble_eq_true rfl, Nat.le_of_ble_eq_true rfl⟩ rfl hl.1 rfl (Nat.le_of_ble_eq_true rfl) dX11_tell_32 ⟨Nat.le_of_ble_eq_true rfl, Nat.le_of_ble_eq_true rfl⟩) hS (fun H locs hP hS => ?_)
          refine lv_goto (tgt := 39) hx hb dX11_tell_35 (by decide) ?_
          obtain ⟨rfl, rfl⟩ := Prod.mk.inj (Option.some.inj hf)
          exact retW C hP hS dX11_tell_39
        · have hf := ifn c_9 hf
          exact nos hf
set_option maxHeartbeats 4000000 in
set_option maxRecDepth 100000 in
theorem c_X11_tread (l : Launch) (D : va_G) (g : Nat → ClassId) (a : Nat → Nat) (hJ : Inj a 41) (M : Mem) (x1 : Int32) (r : Int32) (M' : Mem) (hf : f_X11_tread M x1 = some (r, M')) : Met l yX11_tread (cW yX11_tread cX11_tread 2 (some .int)) (rmv 2 43) (Pw D (tyL g) (wC g a M) [.ref (a 0), .int x1]) (WrQ D (wC g a M') (inA a 41) (.int r)) 0 0 (inA a 41) := by
  unfold f_X11_tread at hf
  refine met_inW (A := (inA a 41)) (by decide) (Nat.le_of_ble_eq_true rfl) ?_
  intro p e s m args below meth c ls H locs C hP hS hl
  have C : Cx p s m args meth c cX11_tread 2 (some .int) RX11 D (tyL g) := C
  obtain ⟨hx, hb, hr, hml, hown, ht, hlocks, hK, hN⟩ := id C
  have hl : lv_has ls 2 [(0, .ref (a 0)), (1, .int x1)] := hl
  refine lv_aload_n hx hb dX11_tread_0 rfl (lv_at hl 0 rfl) ?_
  refine fg_X11_21 C hP dX11_tread_1 ?_
  refine lv_iload_n hx hb dX11_tread_4 rfl (lv_at hl 1 rfl) ?_
  obtain ⟨r1, e_1, hf⟩ := bns hf
  refine kR (rV (rest := []) C (c_X3_has l D g a M x1 r1 e_1) ok_X3_has wd_319 hP 2 (aC_2 g a M) rfl ⟨rfl, rfl, Nat.le_of_ble_eq_true rfl, Nat.le_of_ble_eq_true rfl⟩ rfl hl.1 rfl (Nat.le_of_ble_eq_true rfl) dX11_tread_5 ⟨Nat.le_of_ble_eq_true rfl, Nat.le_of_ble_eq_true rfl⟩) ?_
  refine lv_if_eq (tgt := 30) hx hb dX11_tread_8 (by decide) (fun c_2 => ?_) (fun c_2 => ?_)
  · have hf := ifp c_2 hf
    refine lv_iconst (v := (-1)) hx hb dX11_tread_30 (by decide) ?_
    obtain ⟨rfl, rfl⟩ := Prod.mk.inj (Option.some.inj hf)
    exact retW C hP hS dX11_tread_31
  · have hf := ifn c_2 hf
    refine lv_aload_n hx hb dX11_tread_11 rfl (lv_at hl 0 rfl) ?_
    refine fg_X11_21 C hP dX11_tread_12 ?_
    refine lv_iload_n hx hb dX11_tread_15 rfl (lv_at hl 1 rfl) ?_
    obtain ⟨r3, e_3, hf⟩ := bns hf
    refine kR (rV (rest := []) C (c_X3_bodyOf l D g a M x1 r3 e_3) ok_X3_bodyOf wd_667 hP 2 (aC_2 g a M) rfl ⟨rfl, rfl, Nat.le_of_ble_eq_true rfl, Nat.le_of_ble_eq_true rfl⟩ rfl hl.1 rfl (Nat.le_of_ble_eq_true rfl) dX11_tread_16 ⟨Nat.le_of_ble_eq_true rfl, Nat.le_of_ble_eq_true rfl⟩) ?_
    refine lv_iload_n hx hb dX11_tread_19 rfl (lv_at hl 1 rfl) ?_
    refine lv_aload_n hx hb dX11_tread_20 rfl (lv_at hl 0 rfl) ?_
    refine fg_X11_12 C hP dX11_tread_21 ?_
    by_cases c_4 : r3 = 0
    · have hf := ifp c_4 hf
      rw [c_4]
      obtain ⟨q5, e_5, hf⟩ := bns hf
      refine kW (rU_278_X11_X7_trodden_0 (rest := []) C (c_X7_trodden_0 l D g a hJ M x1 q5.1 q5.2 e_5) hP ⟨rfl, rfl, Nat.le_of_ble_eq_true rfl, Nat.le_of_ble_eq_true rfl⟩ rfl hl.1 rfl (Nat.le_of_ble_eq_true rfl) dX11_tread_24 ⟨Nat.le_of_ble_eq_true rfl, Nat.le_of_ble_eq_true rfl⟩) hS (fun H locs hP hS => ?_)
      refine lv_goto (tgt := 31) hx hb dX11_tread_27 (by decide) ?_
      obtain ⟨rfl, rfl⟩ := Prod.mk.inj (Option.some.inj hf)
      exact retW C hP hS dX11_tread_31
    · have hf := ifn c_4 hf
      by_cases c_6 : r3 = 1
      · have hf := ifp c_6 hf
        rw [c_6]
        obtain ⟨q7, e_7, hf⟩ := bns hf
        refine kW (rU_278_X11_X7_trodden_1 (rest := []) C (c_X7_trodden_1 l D g a hJ M x1 q7.1 q7.2 e_7) hP ⟨rfl, rfl, Nat.le_of_ble_eq_true rfl, Nat.le_of_ble_eq_true rfl⟩ rfl hl.1 rfl (Nat.le_of_ble_eq_true rfl) dX11_tread_24 ⟨Nat.le_of_ble_eq_true rfl, Nat.le_of_ble_eq_true rfl⟩) hS (fun H locs hP hS => ?_)
        refine lv_goto (tgt := 31) hx hb dX11_tread_27 (by decide) ?_
        obtain ⟨rfl, rfl⟩ := Prod.mk.inj (Option.some.inj hf)
        exact retW C hP hS dX11_tread_31
      · have hf := ifn c_6 hf
        by_cases c_8 : r3 = 2
        · have hf := ifp c_8 hf
          rw [c_8]
          obtain ⟨q9, e_9, hf⟩ := bns hf
          refine kW (rU_278_X11_X1_trodden_2 (rest := []) C (c_X1_trodden_2 l D g a hJ M x1 q9.1 q9.2 e_9) hP ⟨rfl, rfl, Nat.le_of_ble_eq_true rfl, Nat.le_of_ble_eq_true rfl⟩ rfl hl.1 rfl (Nat.le_of_ble_eq_true rfl) dX11_tread_24 ⟨Nat.le_of_ble_eq_true rfl, Nat.le_of_ble_eq_true rfl⟩) hS (fun H locs hP hS => ?_)
          refine lv_goto (tgt := 31) hx hb dX11_tread_27 (by decide) ?_
          obtain ⟨rfl, rfl⟩ := Prod.mk.inj (Option.some.inj hf)
          exact retW C hP hS dX11_tread_31
        · have hf := ifn c_8 hf
          exact nos hf
set_option maxHeartbeats 4000000 in
set_option maxRecDepth 100000 in
theorem c_X11_as (l : Launch) (D : va_G) (g : Nat → ClassId) (a : Nat → Nat) (hJ : Inj a 41) (M : Mem) (x1 : Int32) (x2 : Int32) (r : Int32) (M' : Mem) (hf : f_X11_as M x1 x2 = some (r, M')) : Met l yX11_as (cW yX11_as cX11_as 3 (some .int)) (rmv 1 22) (Pw D (tyL g) (wC g a M) [.ref (a 0), .int x1, .int x2]) (WrQ D (wC g a M') (inA a 41) (.int r)) 0 0 (inA a 41) := by
  unfold f_X11_as at hf
  refine met_inW (A := (inA a 41)) (by decide) (Nat.le_of_ble_eq_true rfl) ?_
  intro p e s m args below meth c ls H locs C hP hS hl
  have C : Cx p s m args meth c cX11_as 3 (some .int) RX11 D (tyL g) := C
  obtain ⟨hx, hb, hr, hml, hown, ht, hlocks, hK, hN⟩ := id C
  have hl : lv_has ls 3 [(0, .ref (a 0)), (1, .int x1), (2, .int x2)] := hl
  refine lv_aload_n hx hb dX11_as_0 rfl (lv_at hl 0 rfl) ?_
  refine lv_iconst (v := 0) hx hb dX11_as_1 (by decide) ?_
  refine fp_X11_69 C hP (wC_D hJ) hS dX11_as_2 (fun H locs hP hS => ?_)
  obtain ⟨M1, eM1, hf⟩ := nms hf
  have hP : va_P D clL (wC g a M1) H := by rw [eM1]; exact hP
  refine lv_aload_n hx hb dX11_as_5 rfl (lv_at hl 0 rfl) ?_
  refine fg_X11_21 C hP dX11_as_6 ?_
  refine lv_iload_n hx hb dX11_as_9 rfl (lv_at hl 1 rfl) ?_
  obtain ⟨r2, e_2, hf⟩ := bns hf
  refine kR (rV (rest := []) C (c_X3_has l D g a M1 x1 r2 e_2) ok_X3_has wd_319 hP 2 (aC_2 g a M1) rfl ⟨rfl, rfl, Nat.le_of_ble_eq_true rfl, Nat.le_of_ble_eq_true rfl⟩ rfl hl.1 rfl (Nat.le_of_ble_eq_true rfl) dX11_as_10 ⟨Nat.le_of_ble_eq_true rfl, Nat.le_of_ble_eq_true rfl⟩) ?_
  refine lv_if_ne (tgt := 18) hx hb dX11_as_13 (by decide) (fun c_3 => ?_) (fun c_3 => ?_)
  · have hf := ifn c_3 hf
    refine lv_iload_n hx hb dX11_as_18 rfl (lv_at hl 2 rfl) ?_
    refine lv_iconst (v := 0) hx hb dX11_as_19 (by decide) ?_
    refine lv_iconst (v := 2) hx hb dX11_as_20 (by decide) ?_
    obtain ⟨r4, e_4, hf⟩ := bns hf
    refine kR (rS (rest := []) C (c_X11_isWithin l D (tyL g) (wC g a M1) x2 0 2 r4 e_4) ok_X11_isWithin wd_265 hP ⟨rfl, rfl, Nat.le_of_ble_eq_true rfl, Nat.le_of_ble_eq_true rfl⟩ rfl hl.1 rfl (Nat.le_of_ble_eq_true rfl) dX11_as_21 ⟨Nat.le_of_ble_eq_true rfl, Nat.le_of_ble_eq_true rfl⟩) ?_
    refine lv_if_ne (tgt := 30) hx hb dX11_as_24 (by decide) (fun c_5 => ?_) (fun c_5 => ?_)
    · have hf := ifn c_5 hf
      refine lv_aload_n hx hb dX11_as_30 rfl (lv_at hl 0 rfl) ?_
      refine fg_X11_21 C hP dX11_as_31 ?_
      refine fg_X11_109 C hP dX11_as_34 ?_
      refine lv_iload_n hx hb dX11_as_37 rfl (lv_at hl 1 rfl) ?_
      obtain ⟨h_6, hf⟩ := ifs hf
      refine va_iald hx hb hK hP 21 0 (aC_21 g a M1) rfl h_6 dX11_as_38 ?_
      refine lv_iload_n hx hb dX11_as_39 rfl (lv_at hl 2 rfl) ?_
      refine lv_icmp_ge (tgt := 51) hx hb dX11_as_40 (by decide) (fun c_7 => ?_) (fun c_7 => ?_)
      · have hf := ifp c_7 hf
        refine lv_iconst (v := 1) hx hb dX11_as_51 (by decide) ?_
        obtain ⟨rfl, rfl⟩ := Prod.mk.inj (Option.some.inj hf)
        exact retW C hP hS dX11_as_52
      · have hf := ifn c_7 hf
        refine lv_aload_n hx hb dX11_as_43 rfl (lv_at hl 0 rfl) ?_
        refine lv_iconst (v := 2) hx hb dX11_as_44 (by decide) ?_
        obtain ⟨q8, e_8, hf⟩ := bns hf
        refine kW (rV (rest := []) C (c_X11_failed l D g a hJ M1 2 q8.1 q8.2 e_8) ok_X11_failed wd_279 hP 0 (aC_0 g a M1) rfl ⟨rfl, rfl, Nat.le_of_ble_eq_true rfl, Nat.le_of_ble_eq_true rfl⟩ rfl hl.1 rfl (Nat.le_of_ble_eq_true rfl) dX11_as_45 ⟨Nat.le_of_ble_eq_true rfl, Nat.le_of_ble_eq_true rfl⟩) hS (fun H locs hP hS => ?_)
        refine lv_goto (tgt := 52) hx hb dX11_as_48 (by decide) ?_
        obtain ⟨rfl, rfl⟩ := Prod.mk.inj (Option.some.inj hf)
        exact retW C hP hS dX11_as_52
    · have hf := ifp c_5 hf
      refine lv_bipush (v := (-2)) hx hb dX11_as_27 (by decide) ?_
      obtain ⟨rfl, rfl⟩ := Prod.mk.inj (Option.some.inj hf)
      exact retW C hP hS dX11_as_29
  · have hf := ifp c_3 hf
    refine lv_iconst (v := (-1)) hx hb dX11_as_16 (by decide) ?_
    obtain ⟨rfl, rfl⟩ := Prod.mk.inj (Option.some.inj hf)
    exact retW C hP hS dX11_as_17
set_option maxHeartbeats 4000000 in
set_option maxRecDepth 100000 in
theorem c_X11_trace (l : Launch) (D : va_G) (g : Nat → ClassId) (a : Nat → Nat) (M : Mem) (r : Int32) (hf : f_X11_trace M = some r) : Met l yX11_trace (cW yX11_trace cX11_trace 1 (some .int)) (rmv 0 0) (Pw D (tyL g) (wC g a M) [.ref (a 0)]) (RdQ (.int r)) 0 0 nof := by
  unfold f_X11_trace at hf
  refine met_in (by decide) (Nat.le_of_ble_eq_true rfl) ?_
  intro p e s m args below meth c ls C hP hl
  have C : Cx p s m args meth c cX11_trace 1 (some .int) RX11 D (tyL g) := C
  obtain ⟨hx, hb, hr, hml, hown, ht, hlocks, hK, hN⟩ := id C
  have hl : lv_has ls 1 [(0, .ref (a 0))] := hl
  refine lv_aload_n hx hb dX11_trace_0 rfl (lv_at hl 0 rfl) ?_
  refine fg_X11_12 C hP dX11_trace_1 ?_
  refine fg_X11_281 C hP dX11_trace_4 ?_
  obtain rfl := Option.some.inj hf
  exact retR C dX11_trace_7
set_option maxHeartbeats 4000000 in
set_option maxRecDepth 100000 in
theorem c_X11_fault (l : Launch) (D : va_G) (g : Nat → ClassId) (a : Nat → Nat) (M : Mem) (r : Int32) (hf : f_X11_fault M = some r) : Met l yX11_fault (cW yX11_fault cX11_fault 1 (some .int)) (rmv 0 0) (Pw D (tyL g) (wC g a M) [.ref (a 0)]) (RdQ (.int r)) 0 0 nof := by
  unfold f_X11_fault at hf
  refine met_in (by decide) (Nat.le_of_ble_eq_true rfl) ?_
  intro p e s m args below meth c ls C hP hl
  have C : Cx p s m args meth c cX11_fault 1 (some .int) RX11 D (tyL g) := C
  obtain ⟨hx, hb, hr, hml, hown, ht, hlocks, hK, hN⟩ := id C
  have hl : lv_has ls 1 [(0, .ref (a 0))] := hl
  refine lv_aload_n hx hb dX11_fault_0 rfl (lv_at hl 0 rfl) ?_
  refine fg_X11_69 C hP dX11_fault_1 ?_
  obtain rfl := Option.some.inj hf
  exact retR C dX11_fault_4
set_option maxHeartbeats 4000000 in
set_option maxRecDepth 100000 in
theorem c_X11_many (l : Launch) (D : va_G) (g : Nat → ClassId) (a : Nat → Nat) (M : Mem) (x1 : Int32) (r : Int32) (hf : f_X11_many M x1 = some r) : Met l yX11_many (cW yX11_many cX11_many 2 (some .int)) (rmv 1 20) (Pw D (tyL g) (wC g a M) [.ref (a 0), .int x1]) (RdQ (.int r)) 0 0 nof := by
  unfold f_X11_many at hf
  refine met_in (by decide) (Nat.le_of_ble_eq_true rfl) ?_
  intro p e s m args below meth c ls C hP hl
  have C : Cx p s m args meth c cX11_many 2 (some .int) RX11 D (tyL g) := C
  obtain ⟨hx, hb, hr, hml, hown, ht, hlocks, hK, hN⟩ := id C
  have hl : lv_has ls 2 [(0, .ref (a 0)), (1, .int x1)] := hl
  refine lv_iload_n hx hb dX11_many_0 rfl (lv_at hl 1 rfl) ?_
  by_cases c_1 : x1 = 0
  · have hf := ifp c_1 hf
    refine lv_tableIn (tgt := 28) (off := 27) hx hb dX11_many_1 (by rw [c_1]; decide) (by rw [c_1]; decide) (by rw [c_1]; rfl) (by decide) ?_
    refine lv_aload_n hx hb dX11_many_28 rfl (lv_at hl 0 rfl) ?_
    refine fg_X11_21 C hP dX11_many_29 ?_
    obtain ⟨r2, e_2, hf⟩ := bns hf
    refine kR (rV (rest := []) C (c_X3_stones l D g a M r2 e_2) ok_X3_stones wd_311 hP 2 (aC_2 g a M) rfl ⟨rfl, rfl, Nat.le_of_ble_eq_true rfl, Nat.le_of_ble_eq_true rfl⟩ rfl hl.1 rfl (Nat.le_of_ble_eq_true rfl) dX11_many_32 ⟨Nat.le_of_ble_eq_true rfl, Nat.le_of_ble_eq_true rfl⟩) ?_
    obtain rfl := Option.some.inj hf
    exact retR C dX11_many_35
  · have hf := ifn c_1 hf
    by_cases c_3 : x1 = 1
    · have hf := ifp c_3 hf
      refine lv_tableIn (tgt := 36) (off := 35) hx hb dX11_many_1 (by rw [c_3]; decide) (by rw [c_3]; decide) (by rw [c_3]; rfl) (by decide) ?_
      refine lv_aload_n hx hb dX11_many_36 rfl (lv_at hl 0 rfl) ?_
      refine fg_X11_21 C hP dX11_many_37 ?_
      refine fg_X11_284 C hP dX11_many_40 ?_
      obtain rfl := Option.some.inj hf
      exact retR C dX11_many_43
    · have hf := ifn c_3 hf
      by_cases c_4 : x1 = 2
      · have hf := ifp c_4 hf
        refine lv_tableIn (tgt := 44) (off := 43) hx hb dX11_many_1 (by rw [c_4]; decide) (by rw [c_4]; decide) (by rw [c_4]; rfl) (by decide) ?_
        refine lv_aload_n hx hb dX11_many_44 rfl (lv_at hl 0 rfl) ?_
        refine fg_X11_58 C hP dX11_many_45 ?_
        refine fg_X11_230 C hP dX11_many_48 ?_
        obtain rfl := Option.some.inj hf
        exact retR C dX11_many_51
      · have hf := ifn c_4 hf
        refine lv_tableOut (tgt := 52) hx hb dX11_many_1 (by have q0 : ¬ 0 = Int32.toInt x1 := fun e => i32ne c_1 e.symm; have q1 : ¬ 1 = Int32.toInt x1 := fun e => i32ne c_3 e.symm; have q2 : ¬ 2 = Int32.toInt x1 := fun e => i32ne c_4 e.symm; omega) (by decide) ?_
        refine lv_bipush (v := (-2)) hx hb dX11_many_52 (by decide) ?_
        obtain rfl := Option.some.inj hf
        exact retR C dX11_many_54
