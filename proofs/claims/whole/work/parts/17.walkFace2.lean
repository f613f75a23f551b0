set_option maxHeartbeats 4000000 in
set_option maxRecDepth 100000 in
theorem c_X11_two (l : Launch) (D : va_G) (g : Nat → ClassId) (a : Nat → Nat) (hJ : Inj a 41) (N : Nat) (M : Mem) (x1 : Int32) (x2 : Int32) (r : Int32) (M' : Mem) (hf : f_X11_two N M x1 x2 = some (r, M')) : Met l yX11_two (cW yX11_two cX11_two 4 (some .int)) (rmv 6 133) (Pw D (tyL g) (wC g a M) [.ref (a 0), .int x1, .int x2]) (WrQ D (wC g a M') (inA a 41) (.int r)) 0 0 (inA a 41) := by
  unfold f_X11_two at hf
  refine met_inW (A := (inA a 41)) (by decide) (Nat.le_of_ble_eq_true rfl) ?_
  intro p e s m args below meth c ls H locs C hP hS hl
  have C : Cx p s m args meth c cX11_two 4 (some .int) RX11 D (tyL g) := C
  obtain ⟨hx, hb, hr, hml, hown, ht, hlocks, hK, hN⟩ := id C
  have hl : lv_has ls 4 [(0, .ref (a 0)), (1, .int x1), (2, .int x2)] := hl
  refine lv_aload_n hx hb dX11_two_0 rfl (lv_at hl 0 rfl) ?_
  refine lv_iload_n hx hb dX11_two_1 rfl (lv_at hl 1 rfl) ?_
  refine lv_iload_n hx hb dX11_two_2 rfl (lv_at hl 2 rfl) ?_
  refine lv_iconst (v := 0) hx hb dX11_two_3 (by decide) ?_
  refine lv_iconst (v := 2) hx hb dX11_two_4 (by decide) ?_
  obtain ⟨r1, e_1, hf⟩ := bns hf
  refine kR (rS (rest := [.int x1, .ref (a 0)]) C (c_X11_isWithin l D (tyL g) (wC g a M) x2 0 2 r1 e_1) ok_X11_isWithin wd_265 hP ⟨rfl, rfl, Nat.le_of_ble_eq_true rfl, Nat.le_of_ble_eq_true rfl⟩ rfl hl.1 rfl (Nat.le_of_ble_eq_true rfl) dX11_two_5 ⟨Nat.le_of_ble_eq_true rfl, Nat.le_of_ble_eq_true rfl⟩) ?_
  obtain ⟨r2, e_2, hf⟩ := bns hf
  refine kR (rV (rest := []) C (c_X11_refusalOf l D g a M x1 r1 r2 e_2) ok_X11_refusalOf wd_465 hP 0 (aC_0 g a M) rfl ⟨rfl, rfl, Nat.le_of_ble_eq_true rfl, Nat.le_of_ble_eq_true rfl⟩ rfl hl.1 rfl (Nat.le_of_ble_eq_true rfl) dX11_two_8 ⟨Nat.le_of_ble_eq_true rfl, Nat.le_of_ble_eq_true rfl⟩) ?_
  refine lv_istore_n (lv' := [(3, .int r2), (0, .ref (a 0)), (1, .int x1), (2, .int x2)]) hx hb dX11_two_11 rfl hl (by decide) rfl (fun ls hl => ?_)
  refine lv_iload_n hx hb dX11_two_12 rfl (lv_at hl 0 rfl) ?_
  refine lv_if_eq (tgt := 18) hx hb dX11_two_13 (by decide) (fun c_3 => ?_) (fun c_3 => ?_)
  · have hf := ifp c_3 hf
    refine lv_aload_n hx hb dX11_two_18 rfl (lv_at hl 1 rfl) ?_
    refine fg_X11_37 C hP dX11_two_19 ?_
    refine lv_iload_n hx hb dX11_two_22 rfl (lv_at hl 2 rfl) ?_
    obtain ⟨M4, e_4, hf⟩ := bns hf
    refine kWv (rV (rest := []) C (c_X4_measure l D g a hJ N M x1 M4 e_4) ok_X4_measure wd_451 hP 4 (aC_4 g a M) rfl ⟨rfl, rfl, Nat.le_of_ble_eq_true rfl, Nat.le_of_ble_eq_true rfl⟩ rfl hl.1 rfl (Nat.le_of_ble_eq_true rfl) dX11_two_23 ⟨Nat.le_of_ble_eq_true rfl, Nat.le_of_ble_eq_true rfl⟩) hS (fun H locs hP hS => ?_)
    refine lv_aload_n hx hb dX11_two_26 rfl (lv_at hl 1 rfl) ?_
    refine fg_X11_37 C hP dX11_two_27 ?_
    obtain ⟨M5, e_5, hf⟩ := bns hf
    refine kWv (rV (rest := []) C (c_X4_findPair l D g a hJ N M4 M5 e_5) ok_X4_findPair wd_480 hP 4 (aC_4 g a M4) rfl ⟨rfl, rfl, Nat.le_of_ble_eq_true rfl, Nat.le_of_ble_eq_true rfl⟩ rfl hl.1 rfl (Nat.le_of_ble_eq_true rfl) dX11_two_30 ⟨Nat.le_of_ble_eq_true rfl, Nat.le_of_ble_eq_true rfl⟩) hS (fun H locs hP hS => ?_)
    refine lv_iload_n hx hb dX11_two_33 rfl (lv_at hl 3 rfl) ?_
    refine lv_iconst (v := 2) hx hb dX11_two_34 (by decide) ?_
    refine lv_icmp_ne (tgt := 46) hx hb dX11_two_35 (by decide) (fun c_6 => ?_) (fun c_6 => ?_)
    · have hf := ifn c_6 hf
      refine lv_iload_n hx hb dX11_two_46 rfl (lv_at hl 3 rfl) ?_
      refine lv_if_ne (tgt := 60) hx hb dX11_two_47 (by decide) (fun c_7 => ?_) (fun c_7 => ?_)
      · have hf := ifn c_7 hf
        refine lv_aload_n hx hb dX11_two_60 rfl (lv_at hl 1 rfl) ?_
        refine fg_X11_37 C hP dX11_two_61 ?_
        refine fg_X11_191 C hP dX11_two_64 ?_
        obtain ⟨rfl, rfl⟩ := Prod.mk.inj (Option.some.inj hf)
        exact retW C hP hS dX11_two_67
      · have hf := ifp c_7 hf
        refine lv_aload_n hx hb dX11_two_50 rfl (lv_at hl 1 rfl) ?_
        refine fg_X11_37 C hP dX11_two_51 ?_
        refine fg_X11_188 C hP dX11_two_54 ?_
        refine lv_goto (tgt := 67) hx hb dX11_two_57 (by decide) ?_
        obtain ⟨rfl, rfl⟩ := Prod.mk.inj (Option.some.inj hf)
        exact retW C hP hS dX11_two_67
    · have hf := ifp c_6 hf
      refine lv_aload_n hx hb dX11_two_38 rfl (lv_at hl 1 rfl) ?_
      refine fg_X11_37 C hP dX11_two_39 ?_
      refine fg_X11_185 C hP dX11_two_42 ?_
      obtain ⟨rfl, rfl⟩ := Prod.mk.inj (Option.some.inj hf)
      exact retW C hP hS dX11_two_45
  · have hf := ifn c_3 hf
    refine lv_iload_n hx hb dX11_two_16 rfl (lv_at hl 0 rfl) ?_
    obtain ⟨rfl, rfl⟩ := Prod.mk.inj (Option.some.inj hf)
    exact retW C hP hS dX11_two_17
set_option maxHeartbeats 4000000 in
set_option maxRecDepth 100000 in
theorem c_X11_oval (l : Launch) (D : va_G) (g : Nat → ClassId) (a : Nat → Nat) (hJ : Inj a 41) (N : Nat) (M : Mem) (x1 : Int32) (x2 : Int32) (x3 : Int32) (r : Int32) (M' : Mem) (hf : f_X11_oval N M x1 x2 x3 = some (r, M')) : Met l yX11_oval (cW yX11_oval cX11_oval 5 (some .int)) (rmv 6 133) (Pw D (tyL g) (wC g a M) [.ref (a 0), .int x1, .int x2, .int x3]) (WrQ D (wC g a M') (inA a 41) (.int r)) 0 0 (inA a 41) := by
  unfold f_X11_oval at hf
  refine met_inW (A := (inA a 41)) (by decide) (Nat.le_of_ble_eq_true rfl) ?_
  intro p e s m args below meth c ls H locs C hP hS hl
  have C : Cx p s m args meth c cX11_oval 5 (some .int) RX11 D (tyL g) := C
  obtain ⟨hx, hb, hr, hml, hown, ht, hlocks, hK, hN⟩ := id C
  have hl : lv_has ls 5 [(0, .ref (a 0)), (1, .int x1), (2, .int x2), (3, .int x3)] := hl
  refine lv_aload_n hx hb dX11_oval_0 rfl (lv_at hl 0 rfl) ?_
  refine lv_iload_n hx hb dX11_oval_1 rfl (lv_at hl 1 rfl) ?_
  refine lv_iload_n hx hb dX11_oval_2 rfl (lv_at hl 2 rfl) ?_
  obtain ⟨r1, e_1, hf⟩ := bns hf
  refine kR (rS (rest := [.int x1, .ref (a 0)]) C (c_X11_isApart l D (tyL g) (wC g a M) x2 r1 e_1) ok_X11_isApart wd_379 hP ⟨rfl, rfl, Nat.le_of_ble_eq_true rfl, Nat.le_of_ble_eq_true rfl⟩ rfl hl.1 rfl (Nat.le_of_ble_eq_true rfl) dX11_oval_3 ⟨Nat.le_of_ble_eq_true rfl, Nat.le_of_ble_eq_true rfl⟩) ?_
  refine lv_if_eq (tgt := 22) hx hb dX11_oval_6 (by decide) (fun c_2 => ?_) (fun c_2 => ?_)
  · have hf := ifp c_2 hf
    refine lv_iconst (v := 0) hx hb dX11_oval_22 (by decide) ?_
    obtain ⟨r3, e_3, hf⟩ := bns hf
    refine kR (rV (rest := []) C (c_X11_refusalOf l D g a M x1 0 r3 e_3) ok_X11_refusalOf wd_465 hP 0 (aC_0 g a M) rfl ⟨rfl, rfl, Nat.le_of_ble_eq_true rfl, Nat.le_of_ble_eq_true rfl⟩ rfl hl.1 rfl (Nat.le_of_ble_eq_true rfl) dX11_oval_23 ⟨Nat.le_of_ble_eq_true rfl, Nat.le_of_ble_eq_true rfl⟩) ?_
    refine lv_istore (lv' := [(4, .int r3), (0, .ref (a 0)), (1, .int x1), (2, .int x2), (3, .int x3)]) hx hb dX11_oval_26 hl (by decide) rfl (fun ls hl => ?_)
    refine lv_iload hx hb dX11_oval_28 (lv_at hl 0 rfl) ?_
    refine lv_if_eq (tgt := 36) hx hb dX11_oval_30 (by decide) (fun c_4 => ?_) (fun c_4 => ?_)
    · have hf := ifp c_4 hf
      refine lv_aload_n hx hb dX11_oval_36 rfl (lv_at hl 1 rfl) ?_
      refine fg_X11_37 C hP dX11_oval_37 ?_
      refine lv_iload_n hx hb dX11_oval_40 rfl (lv_at hl 2 rfl) ?_
      obtain ⟨M5, e_5, hf⟩ := bns hf
      refine kWv (rV (rest := []) C (c_X4_measure l D g a hJ N M x1 M5 e_5) ok_X4_measure wd_451 hP 4 (aC_4 g a M) rfl ⟨rfl, rfl, Nat.le_of_ble_eq_true rfl, Nat.le_of_ble_eq_true rfl⟩ rfl hl.1 rfl (Nat.le_of_ble_eq_true rfl) dX11_oval_41 ⟨Nat.le_of_ble_eq_true rfl, Nat.le_of_ble_eq_true rfl⟩) hS (fun H locs hP hS => ?_)
      refine lv_aload_n hx hb dX11_oval_44 rfl (lv_at hl 1 rfl) ?_
      refine fg_X11_37 C hP dX11_oval_45 ?_
      refine lv_iload_n hx hb dX11_oval_48 rfl (lv_at hl 3 rfl) ?_
      obtain ⟨M6, e_6, hf⟩ := bns hf
      refine kWv (rV (rest := []) C (c_X4_findOval l D g a hJ N M5 x2 M6 e_6) ok_X4_findOval wd_497 hP 4 (aC_4 g a M5) rfl ⟨rfl, rfl, Nat.le_of_ble_eq_true rfl, Nat.le_of_ble_eq_true rfl⟩ rfl hl.1 rfl (Nat.le_of_ble_eq_true rfl) dX11_oval_49 ⟨Nat.le_of_ble_eq_true rfl, Nat.le_of_ble_eq_true rfl⟩) hS (fun H locs hP hS => ?_)
      refine lv_iload_n hx hb dX11_oval_52 rfl (lv_at hl 4 rfl) ?_
      refine lv_if_ne (tgt := 64) hx hb dX11_oval_53 (by decide) (fun c_7 => ?_) (fun c_7 => ?_)
      · have hf := ifn c_7 hf
        refine lv_iload_n hx hb dX11_oval_64 rfl (lv_at hl 4 rfl) ?_
        refine lv_iconst (v := 1) hx hb dX11_oval_65 (by decide) ?_
        refine lv_icmp_ne (tgt := 79) hx hb dX11_oval_66 (by decide) (fun c_8 => ?_) (fun c_8 => ?_)
        · have hf := ifn c_8 hf
          refine lv_aload_n hx hb dX11_oval_79 rfl (lv_at hl 1 rfl) ?_
          refine fg_X11_37 C hP dX11_oval_80 ?_
          refine fg_X11_191 C hP dX11_oval_83 ?_
          obtain ⟨rfl, rfl⟩ := Prod.mk.inj (Option.some.inj hf)
          exact retW C hP hS dX11_oval_86
        · have hf := ifp c_8 hf
          refine lv_aload_n hx hb dX11_oval_69 rfl (lv_at hl 1 rfl) ?_
          refine fg_X11_37 C hP dX11_oval_70 ?_
          refine fg_X11_188 C hP dX11_oval_73 ?_
          refine lv_goto (tgt := 86) hx hb dX11_oval_76 (by decide) ?_
          obtain ⟨rfl, rfl⟩ := Prod.mk.inj (Option.some.inj hf)
          exact retW C hP hS dX11_oval_86
      · have hf := ifp c_7 hf
        refine lv_aload_n hx hb dX11_oval_56 rfl (lv_at hl 1 rfl) ?_
        refine fg_X11_37 C hP dX11_oval_57 ?_
        refine fg_X11_185 C hP dX11_oval_60 ?_
        obtain ⟨rfl, rfl⟩ := Prod.mk.inj (Option.some.inj hf)
        exact retW C hP hS dX11_oval_63
    · have hf := ifn c_4 hf
      refine lv_iload hx hb dX11_oval_33 (lv_at hl 0 rfl) ?_
      obtain ⟨rfl, rfl⟩ := Prod.mk.inj (Option.some.inj hf)
      exact retW C hP hS dX11_oval_35
  · have hf := ifn c_2 hf
    refine lv_iload_n hx hb dX11_oval_9 rfl (lv_at hl 3 rfl) ?_
    refine lv_iconst (v := 0) hx hb dX11_oval_10 (by decide) ?_
    refine lv_iconst (v := 2) hx hb dX11_oval_11 (by decide) ?_
    obtain ⟨r9, e_9, hf⟩ := bns hf
    refine kR (rS (rest := [.int x1, .ref (a 0)]) C (c_X11_isWithin l D (tyL g) (wC g a M) x3 0 2 r9 e_9) ok_X11_isWithin wd_265 hP ⟨rfl, rfl, Nat.le_of_ble_eq_true rfl, Nat.le_of_ble_eq_true rfl⟩ rfl hl.1 rfl (Nat.le_of_ble_eq_true rfl) dX11_oval_12 ⟨Nat.le_of_ble_eq_true rfl, Nat.le_of_ble_eq_true rfl⟩) ?_
    refine lv_if_eq (tgt := 22) hx hb dX11_oval_15 (by decide) (fun c_10 => ?_) (fun c_10 => ?_)
    · have hf := ifp c_10 hf
      refine lv_iconst (v := 0) hx hb dX11_oval_22 (by decide) ?_
      obtain ⟨r11, e_11, hf⟩ := bns hf
      refine kR (rV (rest := []) C (c_X11_refusalOf l D g a M x1 0 r11 e_11) ok_X11_refusalOf wd_465 hP 0 (aC_0 g a M) rfl ⟨rfl, rfl, Nat.le_of_ble_eq_true rfl, Nat.le_of_ble_eq_true rfl⟩ rfl hl.1 rfl (Nat.le_of_ble_eq_true rfl) dX11_oval_23 ⟨Nat.le_of_ble_eq_true rfl, Nat.le_of_ble_eq_true rfl⟩) ?_
      refine lv_istore (lv' := [(4, .int r11), (0, .ref (a 0)), (1, .int x1), (2, .int x2), (3, .int x3)]) hx hb dX11_oval_26 hl (by decide) rfl (fun ls hl => ?_)
      refine lv_iload hx hb dX11_oval_28 (lv_at hl 0 rfl) ?_
      refine lv_if_eq (tgt := 36) hx hb dX11_oval_30 (by decide) (fun c_12 => ?_) (fun c_12 => ?_)
      · have hf := ifp c_12 hf
        refine lv_aload_n hx hb dX11_oval_36 rfl (lv_at hl 1 rfl) ?_
        refine fg_X11_37 C hP dX11_oval_37 ?_
        refine lv_iload_n hx hb dX11_oval_40 rfl (lv_at hl 2 rfl) ?_
        obtain ⟨M13, e_13, hf⟩ := bns hf
        refine kWv (rV (rest := []) C (c_X4_measure l D g a hJ N M x1 M13 e_13) ok_X4_measure wd_451 hP 4 (aC_4 g a M) rfl ⟨rfl, rfl, Nat.le_of_ble_eq_true rfl, Nat.le_of_ble_eq_true rfl⟩ rfl hl.1 rfl (Nat.le_of_ble_eq_true rfl) dX11_oval_41 ⟨Nat.le_of_ble_eq_true rfl, Nat.le_of_ble_eq_true rfl⟩) hS (fun H locs hP hS => ?_)
        refine lv_aload_n hx hb dX11_oval_44 rfl (lv_at hl 1 rfl) ?_
        refine fg_X11_37 C hP dX11_oval_45 ?_
        refine lv_iload_n hx hb dX11_oval_48 rfl (lv_at hl 3 rfl) ?_
        obtain ⟨M14, e_14, hf⟩ := bns hf
        refine kWv (rV (rest := []) C (c_X4_findOval l D g a hJ N M13 x2 M14 e_14) ok_X4_findOval wd_497 hP 4 (aC_4 g a M13) rfl ⟨rfl, rfl, Nat.le_of_ble_eq_true rfl, Nat.le_of_ble_eq_true rfl⟩ rfl hl.1 rfl (Nat.le_of_ble_eq_true rfl) dX11_oval_49 ⟨Nat.le_of_ble_eq_true rfl, Nat.le_of_ble_eq_true rfl⟩) hS (fun H locs hP hS => ?_)
        refine lv_iload_n hx hb dX11_oval_52 rfl (lv_at hl 4 rfl) ?_
        refine lv_if_ne (tgt := 64) hx hb dX11_oval_53 (by decide) (fun c_15 => ?_) (fun c_15 => ?_)
        · have hf := ifn c_15 hf
          refine lv_iload_n hx hb dX11_oval_64 rfl (lv_at hl 4 rfl) ?_
          refine lv_iconst (v := 1) hx hb dX11_oval_65 (by decide) ?_
          refine lv_icmp_ne (tgt := 79) hx hb dX11_oval_66 (by decide) (fun c_16 => ?_) (fun c_16 => ?_)
          · have hf := ifn c_16 hf
            refine lv_aload_n hx hb dX11_oval_79 rfl (lv_at hl 1 rfl) ?_
            refine fg_X11_37 C hP dX11_oval_80 ?_
            refine fg_X11_191 C hP dX11_oval_83 ?_
            obtain ⟨rfl, rfl⟩ := Prod.mk.inj (Option.some.inj hf)
            exact retW C hP hS dX11_oval_86
          · have hf := ifp c_16 hf
            refine lv_aload_n hx hb dX11_oval_69 rfl (lv_at hl 1 rfl) ?_
            refine fg_X11_37 C hP dX11_oval_70 ?_
            refine fg_X11_188 C hP dX11_oval_73 ?_
            refine lv_goto (tgt := 86) hx hb dX11_oval_76 (by decide) ?_
            obtain ⟨rfl, rfl⟩ := Prod.mk.inj (Option.some.inj hf)
            exact retW C hP hS dX11_oval_86
        · have hf := ifp c_15 hf
          refine lv_aload_n hx hb dX11_oval_56 rfl (lv_at hl 1 rfl) ?_
          refine fg_X11_37 C hP dX11_oval_57 ?_
          refine fg_X11_185 C hP dX11_oval_60 ?_
          obtain ⟨rfl, rfl⟩ := Prod.mk.inj (Option.some.inj hf)
          exact retW C hP hS dX11_oval_63
      · have hf := ifn c_12 hf
        refine lv_iload hx hb dX11_oval_33 (lv_at hl 0 rfl) ?_
        obtain ⟨rfl, rfl⟩ := Prod.mk.inj (Option.some.inj hf)
        exact retW C hP hS dX11_oval_35
    · have hf := ifn c_10 hf
      refine lv_iconst (v := 1) hx hb dX11_oval_18 (by decide) ?_
      refine lv_goto (tgt := 23) hx hb dX11_oval_19 (by decide) ?_
      obtain ⟨r17, e_17, hf⟩ := bns hf
      refine kR (rV (rest := []) C (c_X11_refusalOf l D g a M x1 1 r17 e_17) ok_X11_refusalOf wd_465 hP 0 (aC_0 g a M) rfl ⟨rfl, rfl, Nat.le_of_ble_eq_true rfl, Nat.le_of_ble_eq_true rfl⟩ rfl hl.1 rfl (Nat.le_of_ble_eq_true rfl) dX11_oval_23 ⟨Nat.le_of_ble_eq_true rfl, Nat.le_of_ble_eq_true rfl⟩) ?_
      refine lv_istore (lv' := [(4, .int r17), (0, .ref (a 0)), (1, .int x1), (2, .int x2), (3, .int x3)]) hx hb dX11_oval_26 hl (by decide) rfl (fun ls hl => ?_)
      refine lv_iload hx hb dX11_oval_28 (lv_at hl 0 rfl) ?_
      refine lv_if_eq (tgt := 36) hx hb dX11_oval_30 (by decide) (fun c_18 => ?_) (fun c_18 => ?_)
      · have hf := ifp c_18 hf
        refine lv_aload_n hx hb dX11_oval_36 rfl (lv_at hl 1 rfl) ?_
        refine fg_X11_37 C hP dX11_oval_37 ?_
        refine lv_iload_n hx hb dX11_oval_40 rfl (lv_at hl 2 rfl) ?_
        obtain ⟨M19, e_19, hf⟩ := bns hf
        refine kWv (rV (rest := []) C (c_X4_measure l D g a hJ N M x1 M19 e_19) ok_X4_measure wd_451 hP 4 (aC_4 g a M) rfl ⟨rfl, rfl, Nat.le_of_ble_eq_true rfl, Nat.le_of_ble_eq_true rfl⟩ rfl hl.1 rfl (Nat.le_of_ble_eq_true rfl) dX11_oval_41 ⟨Nat.le_of_ble_eq_true rfl, Nat.le_of_ble_eq_true rfl⟩) hS (fun H locs hP hS => ?_)
        refine lv_aload_n hx hb dX11_oval_44 rfl (lv_at hl 1 rfl) ?_
        refine fg_X11_37 C hP dX11_oval_45 ?_
        refine lv_iload_n hx hb dX11_oval_48 rfl (lv_at hl 3 rfl) ?_
        obtain ⟨M20, e_20, hf⟩ := bns hf
        refine kWv (rV (rest := []) C (c_X4_findOval l D g a hJ N M19 x2 M20 e_20) ok_X4_findOval wd_497 hP 4 (aC_4 g a M19) rfl ⟨rfl, rfl, Nat.le_of_ble_eq_true rfl, Nat.le_of_ble_eq_true rfl⟩ rfl hl.1 rfl (Nat.le_of_ble_eq_true rfl) dX11_oval_49 ⟨Nat.le_of_ble_eq_true rfl, Nat.le_of_ble_eq_true rfl⟩) hS (fun H locs hP hS => ?_)
        refine lv_iload_n hx hb dX11_oval_52 rfl (lv_at hl 4 rfl) ?_
        refine lv_if_ne (tgt := 64) hx hb dX11_oval_53 (by decide) (fun c_21 => ?_) (fun c_21 => ?_)
        · have hf := ifn c_21 hf
          refine lv_iload_n hx hb dX11_oval_64 rfl (lv_at hl 4 rfl) ?_
          refine lv_iconst (v := 1) hx hb dX11_oval_65 (by decide) ?_
          refine lv_icmp_ne (tgt := 79) hx hb dX11_oval_66 (by decide) (fun c_22 => ?_) (fun c_22 => ?_)
          · have hf := ifn c_22 hf
            refine lv_aload_n hx hb dX11_oval_79 rfl (lv_at hl 1 rfl) ?_
            refine fg_X11_37 C hP dX11_oval_80 ?_
            refine fg_X11_191 C hP dX11_oval_83 ?_
            obtain ⟨rfl, rfl⟩ := Prod.mk.inj (Option.some.inj hf)
            exact retW C hP hS dX11_oval_86
          · have hf := ifp c_22 hf
            refine lv_aload_n hx hb dX11_oval_69 rfl (lv_at hl 1 rfl) ?_
            refine fg_X11_37 C hP dX11_oval_70 ?_
            refine fg_X11_188 C hP dX11_oval_73 ?_
            refine lv_goto (tgt := 86) hx hb dX11_oval_76 (by decide) ?_
            obtain ⟨rfl, rfl⟩ := Prod.mk.inj (Option.some.inj hf)
            exact retW C hP hS dX11_oval_86
        · have hf := ifp c_21 hf
          refine lv_aload_n hx hb dX11_oval_56 rfl (lv_at hl 1 rfl) ?_
          refine fg_X11_37 C hP dX11_oval_57 ?_
          refine fg_X11_185 C hP dX11_oval_60 ?_
          obtain ⟨rfl, rfl⟩ := Prod.mk.inj (Option.some.inj hf)
          exact retW C hP hS dX11_oval_63
      · have hf := ifn c_18 hf
        refine lv_iload hx hb dX11_oval_33 (lv_at hl 0 rfl) ?_
        obtain ⟨rfl, rfl⟩ := Prod.mk.inj (Option.some.inj hf)
        exact retW C hP hS dX11_oval_35
set_option maxHeartbeats 4000000 in
set_option maxRecDepth 100000 in
theorem c_X11_depth (l : Launch) (D : va_G) (g : Nat → ClassId) (a : Nat → Nat) (hJ : Inj a 41) (N : Nat) (M : Mem) (x1 : Int32) (x2 : Int32) (r : Int32) (M' : Mem) (hf : f_X11_depth N M x1 x2 = some (r, M')) : Met l yX11_depth (cW yX11_depth cX11_depth 3 (some .int)) (rmv 6 133) (Pw D (tyL g) (wC g a M) [.ref (a 0), .int x1, .int x2]) (WrQ D (wC g a M') (inA a 41) (.int r)) 0 0 (inA a 41) := by
  unfold f_X11_depth at hf
  refine met_inW (A := (inA a 41)) (by decide) (Nat.le_of_ble_eq_true rfl) ?_
  intro p e s m args below meth c ls H locs C hP hS hl
  have C : Cx p s m args meth c cX11_depth 3 (some .int) RX11 D (tyL g) := C
  obtain ⟨hx, hb, hr, hml, hown, ht, hlocks, hK, hN⟩ := id C
  have hl : lv_has ls 3 [(0, .ref (a 0)), (1, .int x1), (2, .int x2)] := hl
  refine lv_aload_n hx hb dX11_depth_0 rfl (lv_at hl 0 rfl) ?_
  refine fg_X11_21 C hP dX11_depth_1 ?_
  refine lv_iload_n hx hb dX11_depth_4 rfl (lv_at hl 1 rfl) ?_
  obtain ⟨r1, e_1, hf⟩ := bns hf
  refine kR (rV (rest := []) C (c_X3_has l D g a M x1 r1 e_1) ok_X3_has wd_319 hP 2 (aC_2 g a M) rfl ⟨rfl, rfl, Nat.le_of_ble_eq_true rfl, Nat.le_of_ble_eq_true rfl⟩ rfl hl.1 rfl (Nat.le_of_ble_eq_true rfl) dX11_depth_5 ⟨Nat.le_of_ble_eq_true rfl, Nat.le_of_ble_eq_true rfl⟩) ?_
  refine lv_if_eq (tgt := 18) hx hb dX11_depth_8 (by decide) (fun c_2 => ?_) (fun c_2 => ?_)
  · have hf := ifp c_2 hf
    refine lv_iconst (v := (-1)) hx hb dX11_depth_18 (by decide) ?_
    obtain ⟨rfl, rfl⟩ := Prod.mk.inj (Option.some.inj hf)
    exact retW C hP hS dX11_depth_19
  · have hf := ifn c_2 hf
    refine lv_iload_n hx hb dX11_depth_11 rfl (lv_at hl 2 rfl) ?_
    obtain ⟨r3, e_3, hf⟩ := bns hf
    refine kR (rS (rest := []) C (c_X11_isMonth l D (tyL g) (wC g a M) x2 r3 e_3) ok_X11_isMonth wd_327 hP ⟨rfl, rfl, Nat.le_of_ble_eq_true rfl, Nat.le_of_ble_eq_true rfl⟩ rfl hl.1 rfl (Nat.le_of_ble_eq_true rfl) dX11_depth_12 ⟨Nat.le_of_ble_eq_true rfl, Nat.le_of_ble_eq_true rfl⟩) ?_
    refine lv_if_ne (tgt := 20) hx hb dX11_depth_15 (by decide) (fun c_4 => ?_) (fun c_4 => ?_)
    · have hf := ifn c_4 hf
      refine lv_aload_n hx hb dX11_depth_20 rfl (lv_at hl 0 rfl) ?_
      refine fg_X11_44 C hP dX11_depth_21 ?_
      refine lv_iload_n hx hb dX11_depth_24 rfl (lv_at hl 2 rfl) ?_
      obtain ⟨M5, e_5, hf⟩ := bns hf
      refine kWv (rV (rest := []) C (c_X9_measure l D g a hJ N M x2 M5 e_5) ok_X9_measure wd_514 hP 5 (aC_5 g a M) rfl ⟨rfl, rfl, Nat.le_of_ble_eq_true rfl, Nat.le_of_ble_eq_true rfl⟩ rfl hl.1 rfl (Nat.le_of_ble_eq_true rfl) dX11_depth_25 ⟨Nat.le_of_ble_eq_true rfl, Nat.le_of_ble_eq_true rfl⟩) hS (fun H locs hP hS => ?_)
      refine lv_aload_n hx hb dX11_depth_28 rfl (lv_at hl 0 rfl) ?_
      refine fg_X11_44 C hP dX11_depth_29 ?_
      obtain ⟨M6, e_6, hf⟩ := bns hf
      refine kWv (rV (rest := []) C (c_X9_settle l D g a hJ N M5 M6 e_6) ok_X9_settle wd_519 hP 5 (aC_5 g a M5) rfl ⟨rfl, rfl, Nat.le_of_ble_eq_true rfl, Nat.le_of_ble_eq_true rfl⟩ rfl hl.1 rfl (Nat.le_of_ble_eq_true rfl) dX11_depth_32 ⟨Nat.le_of_ble_eq_true rfl, Nat.le_of_ble_eq_true rfl⟩) hS (fun H locs hP hS => ?_)
      refine lv_aload_n hx hb dX11_depth_35 rfl (lv_at hl 0 rfl) ?_
      refine fg_X11_44 C hP dX11_depth_36 ?_
      refine lv_iload_n hx hb dX11_depth_39 rfl (lv_at hl 1 rfl) ?_
      obtain ⟨r7, e_7, hf⟩ := bns hf
      refine kR (rV (rest := []) C (c_X9_depthAt l D g a M6 x1 r7 e_7) ok_X9_depthAt wd_536 hP 5 (aC_5 g a M6) rfl ⟨rfl, rfl, Nat.le_of_ble_eq_true rfl, Nat.le_of_ble_eq_true rfl⟩ rfl hl.1 rfl (Nat.le_of_ble_eq_true rfl) dX11_depth_40 ⟨Nat.le_of_ble_eq_true rfl, Nat.le_of_ble_eq_true rfl⟩) ?_
      obtain ⟨rfl, rfl⟩ := Prod.mk.inj (Option.some.inj hf)
      exact retW C hP hS dX11_depth_43
    · have hf := ifp c_4 hf
      refine lv_iconst (v := (-1)) hx hb dX11_depth_18 (by decide) ?_
      obtain ⟨rfl, rfl⟩ := Prod.mk.inj (Option.some.inj hf)
      exact retW C hP hS dX11_depth_19
set_option maxHeartbeats 4000000 in
set_option maxRecDepth 100000 in
theorem c_X11_pool (l : Launch) (D : va_G) (g : Nat → ClassId) (a : Nat → Nat) (hJ : Inj a 41) (N : Nat) (M : Mem) (x1 : Int32) (r : Int32) (M' : Mem) (hf : f_X11_pool N M x1 = some (r, M')) : Met l yX11_pool (cW yX11_pool cX11_pool 3 (some .int)) (rmv 6 133) (Pw D (tyL g) (wC g a M) [.ref (a 0), .int x1]) (WrQ D (wC g a M') (inA a 41) (.int r)) 0 0 (inA a 41) := by
  unfold f_X11_pool at hf
  refine met_inW (A := (inA a 41)) (by decide) (Nat.le_of_ble_eq_true rfl) ?_
  intro p e s m args below meth c ls H locs C hP hS hl
  have C : Cx p s m args meth c cX11_pool 3 (some .int) RX11 D (tyL g) := C
  obtain ⟨hx, hb, hr, hml, hown, ht, hlocks, hK, hN⟩ := id C
  have hl : lv_has ls 3 [(0, .ref (a 0)), (1, .int x1)] := hl
  refine lv_aload_n hx hb dX11_pool_0 rfl (lv_at hl 0 rfl) ?_
  refine lv_iload_n hx hb dX11_pool_1 rfl (lv_at hl 1 rfl) ?_
  refine lv_iconst (v := 1) hx hb dX11_pool_2 (by decide) ?_
  obtain ⟨r1, e_1, hf⟩ := bns hf
  refine kR (rV (rest := []) C (c_X11_refusalOf l D g a M x1 1 r1 e_1) ok_X11_refusalOf wd_465 hP 0 (aC_0 g a M) rfl ⟨rfl, rfl, Nat.le_of_ble_eq_true rfl, Nat.le_of_ble_eq_true rfl⟩ rfl hl.1 rfl (Nat.le_of_ble_eq_true rfl) dX11_pool_3 ⟨Nat.le_of_ble_eq_true rfl, Nat.le_of_ble_eq_true rfl⟩) ?_
  refine lv_istore_n (lv' := [(2, .int r1), (0, .ref (a 0)), (1, .int x1)]) hx hb dX11_pool_6 rfl hl (by decide) rfl (fun ls hl => ?_)
  refine lv_iload_n hx hb dX11_pool_7 rfl (lv_at hl 0 rfl) ?_
  refine lv_if_eq (tgt := 13) hx hb dX11_pool_8 (by decide) (fun c_2 => ?_) (fun c_2 => ?_)
  · have hf := ifp c_2 hf
    refine lv_aload_n hx hb dX11_pool_13 rfl (lv_at hl 1 rfl) ?_
    refine fg_X11_44 C hP dX11_pool_14 ?_
    refine lv_iload_n hx hb dX11_pool_17 rfl (lv_at hl 2 rfl) ?_
    obtain ⟨M3, e_3, hf⟩ := bns hf
    refine kWv (rV (rest := []) C (c_X9_measure l D g a hJ N M x1 M3 e_3) ok_X9_measure wd_514 hP 5 (aC_5 g a M) rfl ⟨rfl, rfl, Nat.le_of_ble_eq_true rfl, Nat.le_of_ble_eq_true rfl⟩ rfl hl.1 rfl (Nat.le_of_ble_eq_true rfl) dX11_pool_18 ⟨Nat.le_of_ble_eq_true rfl, Nat.le_of_ble_eq_true rfl⟩) hS (fun H locs hP hS => ?_)
    refine lv_aload_n hx hb dX11_pool_21 rfl (lv_at hl 1 rfl) ?_
    refine fg_X11_44 C hP dX11_pool_22 ?_
    obtain ⟨q4, e_4, hf⟩ := bns hf
    refine kW (rV (rest := []) C (c_X9_allDepths l D g a hJ N M3 q4.1 q4.2 e_4) ok_X9_allDepths wd_544 hP 5 (aC_5 g a M3) rfl ⟨rfl, rfl, Nat.le_of_ble_eq_true rfl, Nat.le_of_ble_eq_true rfl⟩ rfl hl.1 rfl (Nat.le_of_ble_eq_true rfl) dX11_pool_25 ⟨Nat.le_of_ble_eq_true rfl, Nat.le_of_ble_eq_true rfl⟩) hS (fun H locs hP hS => ?_)
    obtain ⟨rfl, rfl⟩ := Prod.mk.inj (Option.some.inj hf)
    exact retW C hP hS dX11_pool_28
  · have hf := ifn c_2 hf
    refine lv_iload_n hx hb dX11_pool_11 rfl (lv_at hl 0 rfl) ?_
    obtain ⟨rfl, rfl⟩ := Prod.mk.inj (Option.some.inj hf)
    exact retW C hP hS dX11_pool_12
set_option maxHeartbeats 4000000 in
set_option maxRecDepth 100000 in
theorem c_X11_drain (l : Launch) (D : va_G) (g : Nat → ClassId) (a : Nat → Nat) (hJ : Inj a 41) (N : Nat) (M : Mem) (x1 : Int32) (x2 : Int32) (x3 : Int32) (r : Int32) (M' : Mem) (hf : f_X11_drain N M x1 x2 x3 = some (r, M')) : Met l yX11_drain (cW yX11_drain cX11_drain 6 (some .int)) (rmv 6 140) (Pw D (tyL g) (wC g a M) [.ref (a 0), .int x1, .int x2, .int x3]) (WrQ D (wC g a M') (inA a 41) (.int r)) 0 0 (inA a 41) := by
  unfold f_X11_drain at hf
  refine met_inW (A := (inA a 41)) (by decide) (Nat.le_of_ble_eq_true rfl) ?_
  intro p e s m args below meth c ls H locs C hP hS hl
  have C : Cx p s m args meth c cX11_drain 6 (some .int) RX11 D (tyL g) := C
  obtain ⟨hx, hb, hr, hml, hown, ht, hlocks, hK, hN⟩ := id C
  have hl : lv_has ls 6 [(0, .ref (a 0)), (1, .int x1), (2, .int x2), (3, .int x3)] := hl
  refine lv_aload_n hx hb dX11_drain_0 rfl (lv_at hl 0 rfl) ?_
  refine lv_iload_n hx hb dX11_drain_1 rfl (lv_at hl 1 rfl) ?_
  refine lv_iload_n hx hb dX11_drain_2 rfl (lv_at hl 2 rfl) ?_
  refine lv_iconst (v := 1) hx hb dX11_drain_3 (by decide) ?_
  refine lv_bipush (v := 99) hx hb dX11_drain_4 (by decide) ?_
  obtain ⟨r1, e_1, hf⟩ := bns hf
  refine kR (rS (rest := [.int x1, .ref (a 0)]) C (c_X11_isWithin l D (tyL g) (wC g a M) x2 1 99 r1 e_1) ok_X11_isWithin wd_265 hP ⟨rfl, rfl, Nat.le_of_ble_eq_true rfl, Nat.le_of_ble_eq_true rfl⟩ rfl hl.1 rfl (Nat.le_of_ble_eq_true rfl) dX11_drain_6 ⟨Nat.le_of_ble_eq_true rfl, Nat.le_of_ble_eq_true rfl⟩) ?_
  refine lv_if_eq (tgt := 25) hx hb dX11_drain_9 (by decide) (fun c_2 => ?_) (fun c_2 => ?_)
  · have hf := ifp c_2 hf
    refine lv_iconst (v := 0) hx hb dX11_drain_25 (by decide) ?_
    obtain ⟨r3, e_3, hf⟩ := bns hf
    refine kR (rV (rest := []) C (c_X11_refusalOf l D g a M x1 0 r3 e_3) ok_X11_refusalOf wd_465 hP 0 (aC_0 g a M) rfl ⟨rfl, rfl, Nat.le_of_ble_eq_true rfl, Nat.le_of_ble_eq_true rfl⟩ rfl hl.1 rfl (Nat.le_of_ble_eq_true rfl) dX11_drain_26 ⟨Nat.le_of_ble_eq_true rfl, Nat.le_of_ble_eq_true rfl⟩) ?_
    refine lv_istore (lv' := [(4, .int r3), (0, .ref (a 0)), (1, .int x1), (2, .int x2), (3, .int x3)]) hx hb dX11_drain_29 hl (by decide) rfl (fun ls hl => ?_)
    refine lv_iload hx hb dX11_drain_31 (lv_at hl 0 rfl) ?_
    refine lv_if_eq (tgt := 39) hx hb dX11_drain_33 (by decide) (fun c_4 => ?_) (fun c_4 => ?_)
    · have hf := ifp c_4 hf
      refine lv_aload_n hx hb dX11_drain_39 rfl (lv_at hl 1 rfl) ?_
      refine fg_X11_44 C hP dX11_drain_40 ?_
      refine lv_iload_n hx hb dX11_drain_43 rfl (lv_at hl 2 rfl) ?_
      obtain ⟨M5, e_5, hf⟩ := bns hf
      refine kWv (rV (rest := []) C (c_X9_measure l D g a hJ N M x1 M5 e_5) ok_X9_measure wd_514 hP 5 (aC_5 g a M) rfl ⟨rfl, rfl, Nat.le_of_ble_eq_true rfl, Nat.le_of_ble_eq_true rfl⟩ rfl hl.1 rfl (Nat.le_of_ble_eq_true rfl) dX11_drain_44 ⟨Nat.le_of_ble_eq_true rfl, Nat.le_of_ble_eq_true rfl⟩) hS (fun H locs hP hS => ?_)
      refine lv_aload_n hx hb dX11_drain_47 rfl (lv_at hl 1 rfl) ?_
      refine fg_X11_44 C hP dX11_drain_48 ?_
      refine lv_iload_n hx hb dX11_drain_51 rfl (lv_at hl 3 rfl) ?_
      obtain ⟨q6, e_6, hf⟩ := bns hf
      refine kW (rV (rest := []) C (c_X9_bestLifted l D g a hJ N M5 x2 q6.1 q6.2 e_6) ok_X9_bestLifted wd_554 hP 5 (aC_5 g a M5) rfl ⟨rfl, rfl, Nat.le_of_ble_eq_true rfl, Nat.le_of_ble_eq_true rfl⟩ rfl hl.1 rfl (Nat.le_of_ble_eq_true rfl) dX11_drain_52 ⟨Nat.le_of_ble_eq_true rfl, Nat.le_of_ble_eq_true rfl⟩) hS (fun H locs hP hS => ?_)
      refine lv_istore (lv' := [(5, .int q6.1), (4, .int r3), (0, .ref (a 0)), (1, .int x1), (2, .int x2), (3, .int x3)]) hx hb dX11_drain_55 hl (by decide) rfl (fun ls hl => ?_)
      refine lv_iload_n hx hb dX11_drain_57 rfl (lv_at hl 5 rfl) ?_
      refine lv_if_ne (tgt := 66) hx hb dX11_drain_58 (by decide) (fun c_7 => ?_) (fun c_7 => ?_)
      · have hf := ifn c_7 hf
        refine lv_aload_n hx hb dX11_drain_66 rfl (lv_at hl 2 rfl) ?_
        refine fg_X11_44 C hP dX11_drain_67 ?_
        refine lv_iload hx hb dX11_drain_70 (lv_at hl 0 rfl) ?_
        refine lv_iload_n hx hb dX11_drain_72 rfl (lv_at hl 4 rfl) ?_
        obtain ⟨q8, e_8, hf⟩ := bns hf
        refine kW (rV (rest := []) C (c_X9_poolIfLifted l D g a hJ N q6.2 q6.1 x2 q8.1 q8.2 e_8) ok_X9_poolIfLifted wd_563 hP 5 (aC_5 g a q6.2) rfl ⟨rfl, rfl, Nat.le_of_ble_eq_true rfl, Nat.le_of_ble_eq_true rfl⟩ rfl hl.1 rfl (Nat.le_of_ble_eq_true rfl) dX11_drain_73 ⟨Nat.le_of_ble_eq_true rfl, Nat.le_of_ble_eq_true rfl⟩) hS (fun H locs hP hS => ?_)
        obtain ⟨rfl, rfl⟩ := Prod.mk.inj (Option.some.inj hf)
        exact retW C hP hS dX11_drain_76
      · have hf := ifp c_7 hf
        refine lv_iload hx hb dX11_drain_61 (lv_at hl 0 rfl) ?_
        refine lv_goto (tgt := 76) hx hb dX11_drain_63 (by decide) ?_
        obtain ⟨rfl, rfl⟩ := Prod.mk.inj (Option.some.inj hf)
        exact retW C hP hS dX11_drain_76
    · have hf := ifn c_4 hf
      refine lv_iload hx hb dX11_drain_36 (lv_at hl 0 rfl) ?_
      obtain ⟨rfl, rfl⟩ := Prod.mk.inj (Option.some.inj hf)
      exact retW C hP hS dX11_drain_38
  · have hf := ifn c_2 hf
    refine lv_iload_n hx hb dX11_drain_12 rfl (lv_at hl 3 rfl) ?_
    refine lv_iconst (v := 0) hx hb dX11_drain_13 (by decide) ?_
    refine lv_iconst (v := 1) hx hb dX11_drain_14 (by decide) ?_
    obtain ⟨r9, e_9, hf⟩ := bns hf
    refine kR (rS (rest := [.int x1, .ref (a 0)]) C (c_X11_isWithin l D (tyL g) (wC g a M) x3 0 1 r9 e_9) ok_X11_isWithin wd_265 hP ⟨rfl, rfl, Nat.le_of_ble_eq_true rfl, Nat.le_of_ble_eq_true rfl⟩ rfl hl.1 rfl (Nat.le_of_ble_eq_true rfl) dX11_drain_15 ⟨Nat.le_of_ble_eq_true rfl, Nat.le_of_ble_eq_true rfl⟩) ?_
    refine lv_if_eq (tgt := 25) hx hb dX11_drain_18 (by decide) (fun c_10 => ?_) (fun c_10 => ?_)
    · have hf := ifp c_10 hf
      refine lv_iconst (v := 0) hx hb dX11_drain_25 (by decide) ?_
      obtain ⟨r11, e_11, hf⟩ := bns hf
      refine kR (rV (rest := []) C (c_X11_refusalOf l D g a M x1 0 r11 e_11) ok_X11_refusalOf wd_465 hP 0 (aC_0 g a M) rfl ⟨rfl, rfl, Nat.le_of_ble_eq_true rfl, Nat.le_of_ble_eq_true rfl⟩ rfl hl.1 rfl (Nat.le_of_ble_eq_true rfl) dX11_drain_26 ⟨Nat.le_of_ble_eq_true rfl, Nat.le_of_ble_eq_true rfl⟩) ?_
      refine lv_istore (lv' := [(4, .int r11), (0, .ref (a 0)), (1, .int x1), (2, .int x2), (3, .int x3)]) hx hb dX11_drain_29 hl (by decide) rfl (fun ls hl => ?_)
      refine lv_iload hx hb dX11_drain_31 (lv_at hl 0 rfl) ?_
      refine lv_if_eq (tgt := 39) hx hb dX11_drain_33 (by decide) (fun c_12 => ?_) (fun c_12 => ?_)
      · have hf := ifp c_12 hf
        refine lv_aload_n hx hb dX11_drain_39 rfl (lv_at hl 1 rfl) ?_
        refine fg_X11_44 C hP dX11_drain_40 ?_
        refine lv_iload_n hx hb dX11_drain_43 rfl (lv_at hl 2 rfl) ?_
        obtain ⟨M13, e_13, hf⟩ := bns hf
        refine kWv (rV (rest := []) C (c_X9_measure l D g a hJ N M x1 M13 e_13) ok_X9_measure wd_514 hP 5 (aC_5 g a M) rfl ⟨rfl, rfl, Nat.le_of_ble_eq_true rfl, Nat.le_of_ble_eq_true rfl⟩ rfl hl.1 rfl (Nat.le_of_ble_eq_true rfl) dX11_drain_44 ⟨Nat.le_of_ble_eq_true rfl, Nat.le_of_ble_eq_true rfl⟩) hS (fun H locs hP hS => ?_)
        refine lv_aload_n hx hb dX11_drain_47 rfl (lv_at hl 1 rfl) ?_
        refine fg_X11_44 C hP dX11_drain_48 ?_
        refine lv_iload_n hx hb dX11_drain_51 rfl (lv_at hl 3 rfl) ?_
        obtain ⟨q14, e_14, hf⟩ := bns hf
        refine kW (rV (rest := []) C (c_X9_bestLifted l D g a hJ N M13 x2 q14.1 q14.2 e_14) ok_X9_bestLifted wd_554 hP 5 (aC_5 g a M13) rfl ⟨rfl, rfl, Nat.le_of_ble_eq_true rfl, Nat.le_of_ble_eq_true rfl⟩ rfl hl.1 rfl (Nat.le_of_ble_eq_true rfl) dX11_drain_52 ⟨Nat.le_of_ble_eq_true rfl, Nat.le_of_ble_eq_true rfl⟩) hS (fun H locs hP hS => ?_)
        refine lv_istore (lv' := [(5, .int q14.1), (4, .int r11), (0, .ref (a 0)), (1, .int x1), (2, .int x2), (3, .int x3)]) hx hb dX11_drain_55 hl (by decide) rfl (fun ls hl => ?_)
        refine lv_iload_n hx hb dX11_drain_57 rfl (lv_at hl 5 rfl) ?_
        refine lv_if_ne (tgt := 66) hx hb dX11_drain_58 (by decide) (fun c_15 => ?_) (fun c_15 => ?_)
        · have hf := ifn c_15 hf
          refine lv_aload_n hx hb dX11_drain_66 rfl (lv_at hl 2 rfl) ?_
          refine fg_X11_44 C hP dX11_drain_67 ?_
          refine lv_iload hx hb dX11_drain_70 (lv_at hl 0 rfl) ?_
          refine lv_iload_n hx hb dX11_drain_72 rfl (lv_at hl 4 rfl) ?_
          obtain ⟨q16, e_16, hf⟩ := bns hf
          refine kW (rV (rest := []) C (c_X9_poolIfLifted l D g a hJ N q14.2 q14.1 x2 q16.1 q16.2 e_16) ok_X9_poolIfLifted wd_563 hP 5 (aC_5 g a q14.2) rfl ⟨rfl, rfl, Nat.le_of_ble_eq_true rfl, Nat.le_of_ble_eq_true rfl⟩ rfl hl.1 rfl (Nat.le_of_ble_eq_true rfl) dX11_drain_73 ⟨Nat.le_of_ble_eq_true rfl, Nat.le_of_ble_eq_true rfl⟩) hS (fun H locs hP hS => ?_)
          obtain ⟨rfl, rfl⟩ := Prod.mk.inj (Option.some.inj hf)
          exact retW C hP hS dX11_drain_76
        · have hf := ifp c_15 hf
          refine lv_iload hx hb dX11_drain_61 (lv_at hl 0 rfl) ?_
          refine lv_goto (tgt := 76) hx hb dX11_drain_63 (by decide) ?_
          obtain ⟨rfl, rfl⟩ := Prod.mk.inj (Option.some.inj hf)
          exact retW C hP hS dX11_drain_76
      · have hf := ifn c_12 hf
        refine lv_iload hx hb dX11_drain_36 (lv_at hl 0 rfl) ?_
        obtain ⟨rfl, rfl⟩ := Prod.mk.inj (Option.some.inj hf)
        exact retW C hP hS dX11_drain_38
    · have hf := ifn c_10 hf
      refine lv_iconst (v := 1) hx hb dX11_drain_21 (by decide) ?_
      refine lv_goto (tgt := 26) hx hb dX11_drain_22 (by decide) ?_
      obtain ⟨r17, e_17, hf⟩ := bns hf
      refine kR (rV (rest := []) C (c_X11_refusalOf l D g a M x1 1 r17 e_17) ok_X11_refusalOf wd_465 hP 0 (aC_0 g a M) rfl ⟨rfl, rfl, Nat.le_of_ble_eq_true rfl, Nat.le_of_ble_eq_true rfl⟩ rfl hl.1 rfl (Nat.le_of_ble_eq_true rfl) dX11_drain_26 ⟨Nat.le_of_ble_eq_true rfl, Nat.le_of_ble_eq_true rfl⟩) ?_
      refine lv_istore (lv' := [(4, .int r17), (0, .ref (a 0)), (1, .int x1), (2, .int x2), (3, .int x3)]) hx hb dX11_drain_29 hl (by decide) rfl (fun ls hl => ?_)
      refine lv_iload hx hb dX11_drain_31 (lv_at hl 0 rfl) ?_
      refine lv_if_eq (tgt := 39) hx hb dX11_drain_33 (by decide) (fun c_18 => ?_) (fun c_18 => ?_)
      · have hf := ifp c_18 hf
        refine lv_aload_n hx hb dX11_drain_39 rfl (lv_at hl 1 rfl) ?_
        refine fg_X11_44 C hP dX11_drain_40 ?_
        refine lv_iload_n hx hb dX11_drain_43 rfl (lv_at hl 2 rfl) ?_
        obtain ⟨M19, e_19, hf⟩ := bns hf
        refine kWv (rV (rest := []) C (c_X9_measure l D g a hJ N M x1 M19 e_19) ok_X9_measure wd_514 hP 5 (aC_5 g a M) rfl ⟨rfl, rfl, Nat.le_of_ble_eq_true rfl, Nat.le_of_ble_eq_true rfl⟩ rfl hl.1 rfl (Nat.le_of_ble_eq_true rfl) dX11_drain_44 ⟨Nat.le_of_ble_eq_true rfl, Nat.le_of_ble_eq_true rfl⟩) hS (fun H locs hP hS => ?_)
        refine lv_aload_n hx hb dX11_drain_47 rfl (lv_at hl 1 rfl) ?_
        refine fg_X11_44 C hP dX11_drain_48 ?_
        refine lv_iload_n hx hb dX11_drain_51 rfl (lv_at hl 3 rfl) ?_
        obtain ⟨q20, e_20, hf⟩ := bns hf
        refine kW (rV (rest := []) C (c_X9_bestLifted l D g a hJ N M19 x2 q20.1 q20.2 e_20) ok_X9_bestLifted wd_554 hP 5 (aC_5 g a M19) rfl ⟨rfl, rfl, Nat.le_of_ble_eq_true rfl, Nat.le_of_ble_eq_true rfl⟩ rfl hl.1 rfl (Nat.le_of_ble_eq_true rfl) dX11_drain_52 ⟨Nat.le_of_ble_eq_true rfl, Nat.le_of_ble_eq_true rfl⟩) hS (fun H locs hP hS => ?_)
        refine lv_istore (lv' := [(5, .int q20.1), (4, .int r17), (0, .ref (a 0)), (1, .int x1), (2, .int x2), (3, .int x3)]) hx hb dX11_drain_55 hl (by decide) rfl (fun ls hl => ?_)
        refine lv_iload_n hx hb dX11_drain_57 rfl (lv_at hl 5 rfl) ?_
        refine lv_if_ne (tgt := 66) hx hb dX11_drain_58 (by decide) (fun c_21 => ?_) (fun c_21 => ?_)
        · have hf := ifn c_21 hf
          refine lv_aload_n hx hb dX11_drain_66 rfl (lv_at hl 2 rfl) ?_
          refine fg_X11_44 C hP dX11_drain_67 ?_
          refine lv_iload hx hb dX11_drain_70 (lv_at hl 0 rfl) ?_
          refine lv_iload_n hx hb dX11_drain_72 rfl (lv_at hl 4 rfl) ?_
          obtain ⟨q22, e_22, hf⟩ := bns hf
          refine kW (rV (rest := []) C (c_X9_poolIfLifted l D g a hJ N q20.2 q20.1 x2 q22.1 q22.2 e_22) ok_X9_poolIfLifted wd_563 hP 5 (aC_5 g a q20.2) rfl ⟨rfl, rfl, Nat.le_of_ble_eq_true rfl, Nat.le_of_ble_eq_true rfl⟩ rfl hl.1 rfl (Nat.le_of_ble_eq_true rfl) dX11_drain_73 ⟨Nat.le_of_ble_eq_true rfl, Nat.le_of_ble_eq_true rfl⟩) hS (fun H locs hP hS => ?_)
          obtain ⟨rfl, rfl⟩ := Prod.mk.inj (Option.some.inj hf)
          exact retW C hP hS dX11_drain_76
        · have hf := ifp c_21 hf
          refine lv_iload hx hb dX11_drain_61 (lv_at hl 0 rfl) ?_
          refine lv_goto (tgt := 76) hx hb dX11_drain_63 (by decide) ?_
          obtain ⟨rfl, rfl⟩ := Prod.mk.inj (Option.some.inj hf)
          exact retW C hP hS dX11_drain_76
      · have hf := ifn c_18 hf
        refine lv_iload hx hb dX11_drain_36 (lv_at hl 0 rfl) ?_
        obtain ⟨rfl, rfl⟩ := Prod.mk.inj (Option.some.inj hf)
        exact retW C hP hS dX11_drain_38
set_option maxHeartbeats 4000000 in
set_option maxRecDepth 100000 in
theorem w_X11_statue_l52 {p : Program} {l : Launch} {e : Env} {s : State} {m : MethodId} {args : Array Value} {below : List Frame} {meth : Method} {c : Code} {D : va_G} {g : Nat → ClassId} {a : Nat → Nat} (C : Cx p s m args meth c cX11_statue 5 (some .int) RX11 D (tyL g)) (N : Nat) (M : Mem) (hP : va_P D clL (wC g a M) s.heap) (x1 : Int32) (x2 : Int32) (x3 : Int32) (r : Int32) :
    ∀ (n : Nat) (x4 : Int32), ∀ (ls : Array Slot), lv_has ls 5 [(0, .ref (a 0)), (1, .int x1), (2, .int x2), (3, .int x3), (4, .int x4)] → f_X11_statue_l52 N M x1 x2 x3 n x4 = some r → W p l e (rmv 4 89) s m args below meth c s.heap [] 0 0 (MQ below (RdQ (.int r)) args s 0 0 nof) (F0 m 52 ls []) := by
  obtain ⟨hx, hb, hr, hml, hown, ht, hlocks, hK, hN⟩ := id C
  intro n
  induction n with
  | zero =>
    intro x4 ls hl hf
    exact nos hf
  | succ n ih =>
    intro x4 ls hl hf
    rw [f_X11_statue_l52] at hf
    refine lv_iload hx hb dX11_statue_52 (lv_at hl 4 rfl) ?_
    refine lv_bipush (v := 12) hx hb dX11_statue_54 (by decide) ?_
    refine lv_icmp_ge (tgt := 96) hx hb dX11_statue_56 (by decide) (fun c_9 => ?_) (fun c_9 => ?_)
    · have hf := ifp c_9 hf
      refine lv_bipush (v := (-9)) hx hb dX11_statue_96 (by decide) ?_
      obtain rfl := Option.some.inj hf
      exact retR C dX11_statue_98
    · have hf := ifn c_9 hf
      refine lv_aload_n hx hb dX11_statue_59 rfl (lv_at hl 0 rfl) ?_
      refine fg_X11_21 C hP dX11_statue_60 ?_
      refine lv_iload_n hx hb dX11_statue_63 rfl (lv_at hl 1 rfl) ?_
      refine lv_iload hx hb dX11_statue_64 (lv_at hl 4 rfl) ?_
      obtain ⟨r10, e_10, hf⟩ := bns hf
      refine kR (rV (rest := []) C (c_X3_heightOf l D g a M x1 x4 r10 e_10) ok_X3_heightOf wd_342 hP 2 (aC_2 g a M) rfl ⟨rfl, rfl, Nat.le_of_ble_eq_true rfl, Nat.le_of_ble_eq_true rfl⟩ rfl hl.1 rfl (Nat.le_of_ble_eq_true rfl) dX11_statue_66 ⟨Nat.le_of_ble_eq_true rfl, Nat.le_of_ble_eq_true rfl⟩) ?_
      refine lv_aload_n hx hb dX11_statue_69 rfl (lv_at hl 0 rfl) ?_
      refine fg_X11_21 C hP dX11_statue_70 ?_
      refine lv_iload_n hx hb dX11_statue_73 rfl (lv_at hl 2 rfl) ?_
      refine lv_iload hx hb dX11_statue_74 (lv_at hl 4 rfl) ?_
      obtain ⟨r11, e_11, hf⟩ := bns hf
      refine kR (rV (rest := [.int r10]) C (c_X3_heightOf l D g a M x2 x4 r11 e_11) ok_X3_heightOf wd_342 hP 2 (aC_2 g a M) rfl ⟨rfl, rfl, Nat.le_of_ble_eq_true rfl, Nat.le_of_ble_eq_true rfl⟩ rfl hl.1 rfl (Nat.le_of_ble_eq_true rfl) dX11_statue_76 ⟨Nat.le_of_ble_eq_true rfl, Nat.le_of_ble_eq_true rfl⟩) ?_
      refine lv_isub hx hb dX11_statue_79 ?_
      refine va_mabs hx hb (hml.trans hl.1.symm) hown (ht _ wd_573) (ht _ wd_401) (ht _ wd_14) (ht _ wd_402) (Nat.le_of_ble_eq_true rfl) (Nat.le_of_ble_eq_true rfl) (Nat.le_refl _) (Nat.le_refl _) dX11_statue_80 ?_
      refine lv_iload_n hx hb dX11_statue_83 rfl (lv_at hl 3 rfl) ?_
      refine lv_icmp_le (tgt := 90) hx hb dX11_statue_84 (by decide) (fun c_12 => ?_) (fun c_12 => ?_)
      · have hf := ifp c_12 hf
        refine lv_iinc (v := (x4 + 1)) (lv' := [(4, .int (x4 + 1)), (0, .ref (a 0)), (1, .int x1), (2, .int x2), (3, .int x3)]) hx hb dX11_statue_90 hl (k := 4) rfl rfl (by decide) rfl (fun ls hl => ?_)
        refine lv_goto (tgt := 52) hx hb dX11_statue_93 (by decide) ?_
        exact ih (x4 + 1) ls (lv_sub hl [1, 2, 3, 4, 0] rfl) hf
      · have hf := ifn c_12 hf
        refine lv_iload hx hb dX11_statue_87 (lv_at hl 4 rfl) ?_
        obtain rfl := Option.some.inj hf
        exact retR C dX11_statue_89
set_option maxHeartbeats 4000000 in
set_option maxRecDepth 100000 in
theorem c_X11_statue (l : Launch) (D : va_G) (g : Nat → ClassId) (a : Nat → Nat) (N : Nat) (M : Mem) (x1 : Int32) (x2 : Int32) (x3 : Int32) (r : Int32) (hf : f_X11_statue N M x1 x2 x3 = some r) : Met l yX11_statue (cW yX11_statue cX11_statue 5 (some .int)) (rmv 4 89) (Pw D (tyL g) (wC g a M) [.ref (a 0), .int x1, .int x2, .int x3]) (RdQ (.int r)) 0 0 nof := by
  unfold f_X11_statue at hf
  refine met_in (by decide) (Nat.le_of_ble_eq_true rfl) ?_
  intro p e s m args below meth c ls C hP hl
  have C : Cx p s m args meth c cX11_statue 5 (some .int) RX11 D (tyL g) := C
  obtain ⟨hx, hb, hr, hml, hown, ht, hlocks, hK, hN⟩ := id C
  have hl : lv_has ls 5 [(0, .ref (a 0)), (1, .int x1), (2, .int x2), (3, .int x3)] := hl
  refine lv_aload_n hx hb dX11_statue_0 rfl (lv_at hl 0 rfl) ?_
  refine fg_X11_21 C hP dX11_statue_1 ?_
  refine lv_iload_n hx hb dX11_statue_4 rfl (lv_at hl 1 rfl) ?_
  obtain ⟨r1, e_1, hf⟩ := bns hf
  refine kR (rV (rest := []) C (c_X3_has l D g a M x1 r1 e_1) ok_X3_has wd_319 hP 2 (aC_2 g a M) rfl ⟨rfl, rfl, Nat.le_of_ble_eq_true rfl, Nat.le_of_ble_eq_true rfl⟩ rfl hl.1 rfl (Nat.le_of_ble_eq_true rfl) dX11_statue_5 ⟨Nat.le_of_ble_eq_true rfl, Nat.le_of_ble_eq_true rfl⟩) ?_
  refine lv_if_eq (tgt := 22) hx hb dX11_statue_8 (by decide) (fun c_2 => ?_) (fun c_2 => ?_)
  · have hf := ifp c_2 hf
    refine lv_iconst (v := (-1)) hx hb dX11_statue_22 (by decide) ?_
    obtain rfl := Option.some.inj hf
    exact retR C dX11_statue_23
  · have hf := ifn c_2 hf
    refine lv_aload_n hx hb dX11_statue_11 rfl (lv_at hl 0 rfl) ?_
    refine fg_X11_21 C hP dX11_statue_12 ?_
    refine lv_iload_n hx hb dX11_statue_15 rfl (lv_at hl 2 rfl) ?_
    obtain ⟨r3, e_3, hf⟩ := bns hf
    refine kR (rV (rest := []) C (c_X3_has l D g a M x2 r3 e_3) ok_X3_has wd_319 hP 2 (aC_2 g a M) rfl ⟨rfl, rfl, Nat.le_of_ble_eq_true rfl, Nat.le_of_ble_eq_true rfl⟩ rfl hl.1 rfl (Nat.le_of_ble_eq_true rfl) dX11_statue_16 ⟨Nat.le_of_ble_eq_true rfl, Nat.le_of_ble_eq_true rfl⟩) ?_
    refine lv_if_ne (tgt := 24) hx hb dX11_statue_19 (by decide) (fun c_4 => ?_) (fun c_4 => ?_)
    · have hf := ifn c_4 hf
      refine lv_iload_n hx hb dX11_statue_24 rfl (lv_at hl 3 rfl) ?_
      obtain ⟨r5, e_5, hf⟩ := bns hf
      refine kR (rS (rest := []) C (c_X11_isApart l D (tyL g) (wC g a M) x3 r5 e_5) ok_X11_isApart wd_379 hP ⟨rfl, rfl, Nat.le_of_ble_eq_true rfl, Nat.le_of_ble_eq_true rfl⟩ rfl hl.1 rfl (Nat.le_of_ble_eq_true rfl) dX11_statue_25 ⟨Nat.le_of_ble_eq_true rfl, Nat.le_of_ble_eq_true rfl⟩) ?_
      refine lv_if_ne (tgt := 34) hx hb dX11_statue_28 (by decide) (fun c_6 => ?_) (fun c_6 => ?_)
      · have hf := ifn c_6 hf
        refine lv_aload_n hx hb dX11_statue_34 rfl (lv_at hl 0 rfl) ?_
        refine fg_X11_21 C hP dX11_statue_35 ?_
        refine lv_iload_n hx hb dX11_statue_38 rfl (lv_at hl 1 rfl) ?_
        refine lv_iload_n hx hb dX11_statue_39 rfl (lv_at hl 2 rfl) ?_
        obtain ⟨r7, e_7, hf⟩ := bns hf
        refine kR (rV (rest := []) C (c_X3_areBeside l D g a M x1 x2 r7 e_7) ok_X3_areBeside wd_568 hP 2 (aC_2 g a M) rfl ⟨rfl, rfl, Nat.le_of_ble_eq_true rfl, Nat.le_of_ble_eq_true rfl⟩ rfl hl.1 rfl (Nat.le_of_ble_eq_true rfl) dX11_statue_40 ⟨Nat.le_of_ble_eq_true rfl, Nat.le_of_ble_eq_true rfl⟩) ?_
        refine lv_if_ne (tgt := 49) hx hb dX11_statue_43 (by decide) (fun c_8 => ?_) (fun c_8 => ?_)
        · have hf := ifn c_8 hf
          refine lv_iconst (v := 0) hx hb dX11_statue_49 (by decide) ?_
          refine lv_istore (lv' := [(4, .int 0), (0, .ref (a 0)), (1, .int x1), (2, .int x2), (3, .int x3)]) hx hb dX11_statue_50 hl (by decide) rfl (fun ls hl => ?_)
          exact w_X11_statue_l52 C N M hP x1 x2 x3 r N 0 ls (lv_sub hl [1, 2, 3, 4, 0] rfl) hf
        · have hf := ifp c_8 hf
          refine lv_bipush (v := (-3)) hx hb dX11_statue_46 (by decide) ?_
          obtain rfl := Option.some.inj hf
          exact retR C dX11_statue_48
      · have hf := ifp c_6 hf
        refine lv_bipush (v := (-2)) hx hb dX11_statue_31 (by decide) ?_
        obtain rfl := Option.some.inj hf
        exact retR C dX11_statue_33
    · have hf := ifp c_4 hf
      refine lv_iconst (v := (-1)) hx hb dX11_statue_22 (by decide) ?_
      obtain rfl := Option.some.inj hf
      exact retR C dX11_statue_23
set_option maxHeartbeats 4000000 in
set_option maxRecDepth 100000 in
theorem c_X11_nights (l : Launch) (D : va_G) (g : Nat → ClassId) (a : Nat → Nat) (hJ : Inj a 41) (N : Nat) (M : Mem) (x1 : Int32) (x2 : Int32) (x3 : Int32) (r : Int32) (M' : Mem) (hf : f_X11_nights N M x1 x2 x3 = some (r, M')) : Met l yX11_nights (cW yX11_nights cX11_nights 5 (some .int)) (rmv 5 116) (Pw D (tyL g) (wC g a M) [.ref (a 0), .int x1, .int x2, .int x3]) (WrQ D (wC g a M') (inA a 41) (.int r)) 0 0 (inA a 41) := by
  unfold f_X11_nights at hf
  refine met_inW (A := (inA a 41)) (by decide) (Nat.le_of_ble_eq_true rfl) ?_
  intro p e s m args below meth c ls H locs C hP hS hl
  have C : Cx p s m args meth c cX11_nights 5 (some .int) RX11 D (tyL g) := C
  obtain ⟨hx, hb, hr, hml, hown, ht, hlocks, hK, hN⟩ := id C
  have hl : lv_has ls 5 [(0, .ref (a 0)), (1, .int x1), (2, .int x2), (3, .int x3)] := hl
  refine lv_aload_n hx hb dX11_nights_0 rfl (lv_at hl 0 rfl) ?_
  refine lv_iload_n hx hb dX11_nights_1 rfl (lv_at hl 1 rfl) ?_
  refine lv_iload_n hx hb dX11_nights_2 rfl (lv_at hl 2 rfl) ?_
  refine lv_iconst (v := 1) hx hb dX11_nights_3 (by decide) ?_
  refine lv_bipush (v := 9) hx hb dX11_nights_4 (by decide) ?_
  obtain ⟨r1, e_1, hf⟩ := bns hf
  refine kR (rS (rest := [.int x1, .ref (a 0)]) C (c_X11_isWithin l D (tyL g) (wC g a M) x2 1 9 r1 e_1) ok_X11_isWithin wd_265 hP ⟨rfl, rfl, Nat.le_of_ble_eq_true rfl, Nat.le_of_ble_eq_true rfl⟩ rfl hl.1 rfl (Nat.le_of_ble_eq_true rfl) dX11_nights_6 ⟨Nat.le_of_ble_eq_true rfl, Nat.le_of_ble_eq_true rfl⟩) ?_
  refine lv_if_eq (tgt := 23) hx hb dX11_nights_9 (by decide) (fun c_2 => ?_) (fun c_2 => ?_)
  · have hf := ifp c_2 hf
    refine lv_iconst (v := 0) hx hb dX11_nights_23 (by decide) ?_
    obtain ⟨r3, e_3, hf⟩ := bns hf
    refine kR (rV (rest := []) C (c_X11_refusalOf l D g a M x1 0 r3 e_3) ok_X11_refusalOf wd_465 hP 0 (aC_0 g a M) rfl ⟨rfl, rfl, Nat.le_of_ble_eq_true rfl, Nat.le_of_ble_eq_true rfl⟩ rfl hl.1 rfl (Nat.le_of_ble_eq_true rfl) dX11_nights_24 ⟨Nat.le_of_ble_eq_true rfl, Nat.le_of_ble_eq_true rfl⟩) ?_
    refine lv_istore (lv' := [(4, .int r3), (0, .ref (a 0)), (1, .int x1), (2, .int x2), (3, .int x3)]) hx hb dX11_nights_27 hl (by decide) rfl (fun ls hl => ?_)
    refine lv_iload hx hb dX11_nights_29 (lv_at hl 0 rfl) ?_
    refine lv_if_eq (tgt := 39) hx hb dX11_nights_31 (by decide) (fun c_4 => ?_) (fun c_4 => ?_)
    · have hf := ifp c_4 hf
      refine lv_aload_n hx hb dX11_nights_39 rfl (lv_at hl 1 rfl) ?_
      refine fg_X11_51 C hP dX11_nights_40 ?_
      refine lv_iload_n hx hb dX11_nights_43 rfl (lv_at hl 2 rfl) ?_
      refine lv_iload_n hx hb dX11_nights_44 rfl (lv_at hl 3 rfl) ?_
      refine lv_iload_n hx hb dX11_nights_45 rfl (lv_at hl 4 rfl) ?_
      obtain ⟨q5, e_5, hf⟩ := bns hf
      refine kW (rV (rest := []) C (c_X2_nightsTill l D g a hJ N M x1 x2 x3 q5.1 q5.2 e_5) ok_X2_nightsTill wd_578 hP 6 (aC_6 g a M) rfl ⟨rfl, rfl, Nat.le_of_ble_eq_true rfl, Nat.le_of_ble_eq_true rfl⟩ rfl hl.1 rfl (Nat.le_of_ble_eq_true rfl) dX11_nights_46 ⟨Nat.le_of_ble_eq_true rfl, Nat.le_of_ble_eq_true rfl⟩) hS (fun H locs hP hS => ?_)
      obtain ⟨rfl, rfl⟩ := Prod.mk.inj (Option.some.inj hf)
      exact retW C hP hS dX11_nights_49
    · have hf := ifn c_4 hf
      refine lv_iload hx hb dX11_nights_34 (lv_at hl 0 rfl) ?_
      refine lv_goto (tgt := 49) hx hb dX11_nights_36 (by decide) ?_
      obtain ⟨rfl, rfl⟩ := Prod.mk.inj (Option.some.inj hf)
      exact retW C hP hS dX11_nights_49
  · have hf := ifn c_2 hf
    refine lv_iload_n hx hb dX11_nights_12 rfl (lv_at hl 3 rfl) ?_
    obtain ⟨r6, e_6, hf⟩ := bns hf
    refine kR (rS (rest := [.int x1, .ref (a 0)]) C (c_X11_isApart l D (tyL g) (wC g a M) x3 r6 e_6) ok_X11_isApart wd_379 hP ⟨rfl, rfl, Nat.le_of_ble_eq_true rfl, Nat.le_of_ble_eq_true rfl⟩ rfl hl.1 rfl (Nat.le_of_ble_eq_true rfl) dX11_nights_13 ⟨Nat.le_of_ble_eq_true rfl, Nat.le_of_ble_eq_true rfl⟩) ?_
    refine lv_if_eq (tgt := 23) hx hb dX11_nights_16 (by decide) (fun c_7 => ?_) (fun c_7 => ?_)
    · have hf := ifp c_7 hf
      refine lv_iconst (v := 0) hx hb dX11_nights_23 (by decide) ?_
      obtain ⟨r8, e_8, hf⟩ := bns hf
      refine kR (rV (rest := []) C (c_X11_refusalOf l D g a M x1 0 r8 e_8) ok_X11_refusalOf wd_465 hP 0 (aC_0 g a M) rfl ⟨rfl, rfl, Nat.le_of_ble_eq_true rfl, Nat.le_of_ble_eq_true rfl⟩ rfl hl.1 rfl (Nat.le_of_ble_eq_true rfl) dX11_nights_24 ⟨Nat.le_of_ble_eq_true rfl, Nat.le_of_ble_eq_true rfl⟩) ?_
      refine lv_istore (lv' := [(4, .int r8), (0, .ref (a 0)), (1, .int x1), (2, .int x2), (3, .int x3)]) hx hb dX11_nights_27 hl (by decide) rfl (fun ls hl => ?_)
      refine lv_iload hx hb dX11_nights_29 (lv_at hl 0 rfl) ?_
      refine lv_if_eq (tgt := 39) hx hb dX11_nights_31 (by decide) (fun c_9 => ?_) (fun c_9 => ?_)
      · have hf := ifp c_9 hf
        refine lv_aload_n hx hb dX11_nights_39 rfl (lv_at hl 1 rfl) ?_
        refine fg_X11_51 C hP dX11_nights_40 ?_
        refine lv_iload_n hx hb dX11_nights_43 rfl (lv_at hl 2 rfl) ?_
        refine lv_iload_n hx hb dX11_nights_44 rfl (lv_at hl 3 rfl) ?_
        refine lv_iload_n hx hb dX11_nights_45 rfl (lv_at hl 4 rfl) ?_
        obtain ⟨q10, e_10, hf⟩ := bns hf
        refine kW (rV (rest := []) C (c_X2_nightsTill l D g a hJ N M x1 x2 x3 q10.1 q10.2 e_10) ok_X2_nightsTill wd_578 hP 6 (aC_6 g a M) rfl ⟨rfl, rfl, Nat.le_of_ble_eq_true rfl, Nat.le_of_ble_eq_true rfl⟩ rfl hl.1 rfl (Nat.le_of_ble_eq_true rfl) dX11_nights_46 ⟨Nat.le_of_ble_eq_true rfl, Nat.le_of_ble_eq_true rfl⟩) hS (fun H locs hP hS => ?_)
        obtain ⟨rfl, rfl⟩ := Prod.mk.inj (Option.some.inj hf)
        exact retW C hP hS dX11_nights_49
      · have hf := ifn c_9 hf
        refine lv_iload hx hb dX11_nights_34 (lv_at hl 0 rfl) ?_
        refine lv_goto (tgt := 49) hx hb dX11_nights_36 (by decide) ?_
        obtain ⟨rfl, rfl⟩ := Prod.mk.inj (Option.some.inj hf)
        exact retW C hP hS dX11_nights_49
    · have hf := ifn c_7 hf
      refine lv_iconst (v := 1) hx hb dX11_nights_19 (by decide) ?_
      refine lv_goto (tgt := 24) hx hb dX11_nights_20 (by decide) ?_
      obtain ⟨r11, e_11, hf⟩ := bns hf
      refine kR (rV (rest := []) C (c_X11_refusalOf l D g a M x1 1 r11 e_11) ok_X11_refusalOf wd_465 hP 0 (aC_0 g a M) rfl ⟨rfl, rfl, Nat.le_of_ble_eq_true rfl, Nat.le_of_ble_eq_true rfl⟩ rfl hl.1 rfl (Nat.le_of_ble_eq_true rfl) dX11_nights_24 ⟨Nat.le_of_ble_eq_true rfl, Nat.le_of_ble_eq_true rfl⟩) ?_
      refine lv_istore (lv' := [(4, .int r11), (0, .ref (a 0)), (1, .int x1), (2, .int x2), (3, .int x3)]) hx hb dX11_nights_27 hl (by decide) rfl (fun ls hl => ?_)
      refine lv_iload hx hb dX11_nights_29 (lv_at hl 0 rfl) ?_
      refine lv_if_eq (tgt := 39) hx hb dX11_nights_31 (by decide) (fun c_12 => ?_) (fun c_12 => ?_)
      · have hf := ifp c_12 hf
        refine lv_aload_n hx hb dX11_nights_39 rfl (lv_at hl 1 rfl) ?_
        refine fg_X11_51 C hP dX11_nights_40 ?_
        refine lv_iload_n hx hb dX11_nights_43 rfl (lv_at hl 2 rfl) ?_
        refine lv_iload_n hx hb dX11_nights_44 rfl (lv_at hl 3 rfl) ?_
        refine lv_iload_n hx hb dX11_nights_45 rfl (lv_at hl 4 rfl) ?_
        obtain ⟨q13, e_13, hf⟩ := bns hf
        refine kW (rV (rest := []) C (c_X2_nightsTill l D g a hJ N M x1 x2 x3 q13.1 q13.2 e_13) ok_X2_nightsTill wd_578 hP 6 (aC_6 g a M) rfl ⟨rfl, rfl, Nat.le_of_ble_eq_true rfl, Nat.le_of_ble_eq_true rfl⟩ rfl hl.1 rfl (Nat.le_of_ble_eq_true rfl) dX11_nights_46 ⟨Nat.le_of_ble_eq_true rfl, Nat.le_of_ble_eq_true rfl⟩) hS (fun H locs hP hS => ?_)
        obtain ⟨rfl, rfl⟩ := Prod.mk.inj (Option.some.inj hf)
        exact retW C hP hS dX11_nights_49
      · have hf := ifn c_12 hf
        refine lv_iload hx hb dX11_nights_34 (lv_at hl 0 rfl) ?_
        refine lv_goto (tgt := 49) hx hb dX11_nights_36 (by decide) ?_
        obtain ⟨rfl, rfl⟩ := Prod.mk.inj (Option.some.inj hf)
        exact retW C hP hS dX11_nights_49
set_option maxHeartbeats 4000000 in
set_option maxRecDepth 100000 in
theorem c_X11_reading (l : Launch) (D : va_G) (g : Nat → ClassId) (a : Nat → Nat) (hJ : Inj a 41) (M : Mem) (x1 : Int32) (x2 : Int32) (x3 : Int32) (r : Int32) (M' : Mem) (hf : f_X11_reading M x1 x2 x3 = some (r, M')) : Met l yX11_reading (cW yX11_reading cX11_reading 4 (some .int)) (rmv 2 42) (Pw D (tyL g) (wC g a M) [.ref (a 0), .int x1, .int x2, .int x3]) (WrQ D (wC g a M') (inA a 41) (.int r)) 0 0 (inA a 41) := by
  unfold f_X11_reading at hf
  refine met_inW (A := (inA a 41)) (by decide) (Nat.le_of_ble_eq_true rfl) ?_
  intro p e s m args below meth c ls H locs C hP hS hl
  have C : Cx p s m args meth c cX11_reading 4 (some .int) RX11 D (tyL g) := C
  obtain ⟨hx, hb, hr, hml, hown, ht, hlocks, hK, hN⟩ := id C
  have hl : lv_has ls 4 [(0, .ref (a 0)), (1, .int x1), (2, .int x2), (3, .int x3)] := hl
  refine lv_aload_n hx hb dX11_reading_0 rfl (lv_at hl 0 rfl) ?_
  refine fg_X11_21 C hP dX11_reading_1 ?_
  refine lv_iload_n hx hb dX11_reading_4 rfl (lv_at hl 1 rfl) ?_
  obtain ⟨r1, e_1, hf⟩ := bns hf
  refine kR (rV (rest := []) C (c_X3_has l D g a M x1 r1 e_1) ok_X3_has wd_319 hP 2 (aC_2 g a M) rfl ⟨rfl, rfl, Nat.le_of_ble_eq_true rfl, Nat.le_of_ble_eq_true rfl⟩ rfl hl.1 rfl (Nat.le_of_ble_eq_true rfl) dX11_reading_5 ⟨Nat.le_of_ble_eq_true rfl, Nat.le_of_ble_eq_true rfl⟩) ?_
  refine lv_if_eq (tgt := 18) hx hb dX11_reading_8 (by decide) (fun c_2 => ?_) (fun c_2 => ?_)
  · have hf := ifp c_2 hf
    refine lv_iconst (v := (-1)) hx hb dX11_reading_18 (by decide) ?_
    obtain ⟨rfl, rfl⟩ := Prod.mk.inj (Option.some.inj hf)
    exact retW C hP hS dX11_reading_19
  · have hf := ifn c_2 hf
    refine lv_iload_n hx hb dX11_reading_11 rfl (lv_at hl 2 rfl) ?_
    obtain ⟨r3, e_3, hf⟩ := bns hf
    refine kR (rS (rest := []) C (c_X11_isMonth l D (tyL g) (wC g a M) x2 r3 e_3) ok_X11_isMonth wd_327 hP ⟨rfl, rfl, Nat.le_of_ble_eq_true rfl, Nat.le_of_ble_eq_true rfl⟩ rfl hl.1 rfl (Nat.le_of_ble_eq_true rfl) dX11_reading_12 ⟨Nat.le_of_ble_eq_true rfl, Nat.le_of_ble_eq_true rfl⟩) ?_
    refine lv_if_ne (tgt := 20) hx hb dX11_reading_15 (by decide) (fun c_4 => ?_) (fun c_4 => ?_)
    · have hf := ifn c_4 hf
      refine lv_iload_n hx hb dX11_reading_20 rfl (lv_at hl 3 rfl) ?_
      obtain ⟨r5, e_5, hf⟩ := bns hf
      refine kR (rS (rest := []) C (c_X11_isApart l D (tyL g) (wC g a M) x3 r5 e_5) ok_X11_isApart wd_379 hP ⟨rfl, rfl, Nat.le_of_ble_eq_true rfl, Nat.le_of_ble_eq_true rfl⟩ rfl hl.1 rfl (Nat.le_of_ble_eq_true rfl) dX11_reading_21 ⟨Nat.le_of_ble_eq_true rfl, Nat.le_of_ble_eq_true rfl⟩) ?_
      refine lv_if_ne (tgt := 30) hx hb dX11_reading_24 (by decide) (fun c_6 => ?_) (fun c_6 => ?_)
      · have hf := ifn c_6 hf
        refine lv_aload_n hx hb dX11_reading_30 rfl (lv_at hl 0 rfl) ?_
        refine fg_X11_58 C hP dX11_reading_31 ?_
        obtain ⟨r7, e_7, hf⟩ := bns hf
        refine kR (rV (rest := []) C (c_X5_isFull l D g a M r7 e_7) ok_X5_isFull wd_593 hP 7 (aC_7 g a M) rfl ⟨rfl, rfl, Nat.le_of_ble_eq_true rfl, Nat.le_of_ble_eq_true rfl⟩ rfl hl.1 rfl (Nat.le_of_ble_eq_true rfl) dX11_reading_34 ⟨Nat.le_of_ble_eq_true rfl, Nat.le_of_ble_eq_true rfl⟩) ?_
        refine lv_if_eq (tgt := 45) hx hb dX11_reading_37 (by decide) (fun c_8 => ?_) (fun c_8 => ?_)
        · have hf := ifp c_8 hf
          refine lv_aload_n hx hb dX11_reading_45 rfl (lv_at hl 0 rfl) ?_
          refine fg_X11_58 C hP dX11_reading_46 ?_
          refine lv_iload_n hx hb dX11_reading_49 rfl (lv_at hl 1 rfl) ?_
          refine lv_iload_n hx hb dX11_reading_50 rfl (lv_at hl 2 rfl) ?_
          refine lv_iload_n hx hb dX11_reading_51 rfl (lv_at hl 3 rfl) ?_
          obtain ⟨q9, e_9, hf⟩ := bns hf
          refine kW (rV (rest := []) C (c_X5_take l D g a hJ M x1 x2 x3 q9.1 q9.2 e_9) ok_X5_take wd_597 hP 7 (aC_7 g a M) rfl ⟨rfl, rfl, Nat.le_of_ble_eq_true rfl, Nat.le_of_ble_eq_true rfl⟩ rfl hl.1 rfl (Nat.le_of_ble_eq_true rfl) dX11_reading_52 ⟨Nat.le_of_ble_eq_true rfl, Nat.le_of_ble_eq_true rfl⟩) hS (fun H locs hP hS => ?_)
          obtain ⟨rfl, rfl⟩ := Prod.mk.inj (Option.some.inj hf)
          exact retW C hP hS dX11_reading_55
        · have hf := ifn c_8 hf
          refine lv_bipush (v := (-4)) hx hb dX11_reading_40 (by decide) ?_
          refine lv_goto (tgt := 55) hx hb dX11_reading_42 (by decide) ?_
          obtain ⟨rfl, rfl⟩ := Prod.mk.inj (Option.some.inj hf)
          exact retW C hP hS dX11_reading_55
      · have hf := ifp c_6 hf
        refine lv_bipush (v := (-2)) hx hb dX11_reading_27 (by decide) ?_
        obtain ⟨rfl, rfl⟩ := Prod.mk.inj (Option.some.inj hf)
        exact retW C hP hS dX11_reading_29
    · have hf := ifp c_4 hf
      refine lv_iconst (v := (-1)) hx hb dX11_reading_18 (by decide) ?_
      obtain ⟨rfl, rfl⟩ := Prod.mk.inj (Option.some.inj hf)
      exact retW C hP hS dX11_reading_19
set_option maxHeartbeats 4000000 in
set_option maxRecDepth 100000 in
theorem c_X11_back (l : Launch) (D : va_G) (g : Nat → ClassId) (a : Nat → Nat) (hJ : Inj a 41) (M : Mem) (x1 : Int32) (r : Int32) (M' : Mem) (hf : f_X11_back M x1 = some (r, M')) : Met l yX11_back (cW yX11_back cX11_back 2 (some .int)) (rmv 1 22) (Pw D (tyL g) (wC g a M) [.ref (a 0), .int x1]) (WrQ D (wC g a M') (inA a 41) (.int r)) 0 0 (inA a 41) := by
  unfold f_X11_back at hf
  refine met_inW (A := (inA a 41)) (by decide) (Nat.le_of_ble_eq_true rfl) ?_
  intro p e s m args below meth c ls H locs C hP hS hl
  have C : Cx p s m args meth c cX11_back 2 (some .int) RX11 D (tyL g) := C
  obtain ⟨hx, hb, hr, hml, hown, ht, hlocks, hK, hN⟩ := id C
  have hl : lv_has ls 2 [(0, .ref (a 0)), (1, .int x1)] := hl
  refine lv_iload_n hx hb dX11_back_0 rfl (lv_at hl 1 rfl) ?_
  refine lv_iconst (v := 0) hx hb dX11_back_1 (by decide) ?_
  refine lv_aload_n hx hb dX11_back_2 rfl (lv_at hl 0 rfl) ?_
  refine fg_X11_58 C hP dX11_back_3 ?_
  refine fg_X11_230 C hP dX11_back_6 ?_
  obtain ⟨r1, e_1, hf⟩ := bns hf
  refine kR (rS (rest := []) C (c_X11_isWithin l D (tyL g) (wC g a M) x1 0 (M 7 4) r1 e_1) ok_X11_isWithin wd_265 hP ⟨rfl, rfl, Nat.le_of_ble_eq_true rfl, Nat.le_of_ble_eq_true rfl⟩ rfl hl.1 rfl (Nat.le_of_ble_eq_true rfl) dX11_back_9 ⟨Nat.le_of_ble_eq_true rfl, Nat.le_of_ble_eq_true rfl⟩) ?_
  refine lv_if_ne (tgt := 18) hx hb dX11_back_12 (by decide) (fun c_2 => ?_) (fun c_2 => ?_)
  · have hf := ifn c_2 hf
    refine lv_aload_n hx hb dX11_back_18 rfl (lv_at hl 0 rfl) ?_
    refine fg_X11_58 C hP dX11_back_19 ?_
    refine lv_iload_n hx hb dX11_back_22 rfl (lv_at hl 1 rfl) ?_
    obtain ⟨q3, e_3, hf⟩ := bns hf
    refine kW (rV (rest := []) C (c_X5_takeBack l D g a hJ M x1 q3.1 q3.2 e_3) ok_X5_takeBack wd_605 hP 7 (aC_7 g a M) rfl ⟨rfl, rfl, Nat.le_of_ble_eq_true rfl, Nat.le_of_ble_eq_true rfl⟩ rfl hl.1 rfl (Nat.le_of_ble_eq_true rfl) dX11_back_23 ⟨Nat.le_of_ble_eq_true rfl, Nat.le_of_ble_eq_true rfl⟩) hS (fun H locs hP hS => ?_)
    obtain ⟨rfl, rfl⟩ := Prod.mk.inj (Option.some.inj hf)
    exact retW C hP hS dX11_back_26
  · have hf := ifp c_2 hf
    refine lv_bipush (v := (-2)) hx hb dX11_back_15 (by decide) ?_
    obtain ⟨rfl, rfl⟩ := Prod.mk.inj (Option.some.inj hf)
    exact retW C hP hS dX11_back_17
set_option maxHeartbeats 4000000 in
set_option maxRecDepth 100000 in
theorem c_X11_kinds (l : Launch) (D : va_G) (g : Nat → ClassId) (a : Nat → Nat) (N : Nat) (M : Mem) (x1 : Int32) (r : Int32) (hf : f_X11_kinds N M x1 = some r) : Met l yX11_kinds (cW yX11_kinds cX11_kinds 2 (some .int)) (rmv 5 113) (Pw D (tyL g) (wC g a M) [.ref (a 0), .int x1]) (RdQ (.int r)) 0 0 nof := by
  unfold f_X11_kinds at hf
  refine met_in (by decide) (Nat.le_of_ble_eq_true rfl) ?_
  intro p e s m args below meth c ls C hP hl
  have C : Cx p s m args meth c cX11_kinds 2 (some .int) RX11 D (tyL g) := C
  obtain ⟨hx, hb, hr, hml, hown, ht, hlocks, hK, hN⟩ := id C
  have hl : lv_has ls 2 [(0, .ref (a 0)), (1, .int x1)] := hl
  refine lv_aload_n hx hb dX11_kinds_0 rfl (lv_at hl 0 rfl) ?_
  refine fg_X11_21 C hP dX11_kinds_1 ?_
  refine lv_iload_n hx hb dX11_kinds_4 rfl (lv_at hl 1 rfl) ?_
  obtain ⟨r1, e_1, hf⟩ := bns hf
  refine kR (rV (rest := []) C (c_X3_has l D g a M x1 r1 e_1) ok_X3_has wd_319 hP 2 (aC_2 g a M) rfl ⟨rfl, rfl, Nat.le_of_ble_eq_true rfl, Nat.le_of_ble_eq_true rfl⟩ rfl hl.1 rfl (Nat.le_of_ble_eq_true rfl) dX11_kinds_5 ⟨Nat.le_of_ble_eq_true rfl, Nat.le_of_ble_eq_true rfl⟩) ?_
  refine lv_if_eq (tgt := 22) hx hb dX11_kinds_8 (by decide) (fun c_2 => ?_) (fun c_2 => ?_)
  · have hf := ifp c_2 hf
    refine lv_iconst (v := (-1)) hx hb dX11_kinds_22 (by decide) ?_
    obtain rfl := Option.some.inj hf
    exact retR C dX11_kinds_23
  · have hf := ifn c_2 hf
    refine lv_aload_n hx hb dX11_kinds_11 rfl (lv_at hl 0 rfl) ?_
    refine fg_X11_58 C hP dX11_kinds_12 ?_
    refine lv_iload_n hx hb dX11_kinds_15 rfl (lv_at hl 1 rfl) ?_
    obtain ⟨r3, e_3, hf⟩ := bns hf
    refine kR (rV (rest := []) C (c_X5_kindsOf l D g a N M x1 r3 e_3) ok_X5_kindsOf wd_613 hP 7 (aC_7 g a M) rfl ⟨rfl, rfl, Nat.le_of_ble_eq_true rfl, Nat.le_of_ble_eq_true rfl⟩ rfl hl.1 rfl (Nat.le_of_ble_eq_true rfl) dX11_kinds_16 ⟨Nat.le_of_ble_eq_true rfl, Nat.le_of_ble_eq_true rfl⟩) ?_
    refine lv_goto (tgt := 23) hx hb dX11_kinds_19 (by decide) ?_
    obtain rfl := Option.some.inj hf
    exact retR C dX11_kinds_23
set_option maxHeartbeats 4000000 in
set_option maxRecDepth 100000 in
theorem c_X11_sheet (l : Launch) (D : va_G) (g : Nat → ClassId) (a : Nat → Nat) (hJ : Inj a 41) (N : Nat) (M : Mem) (x1 : Int32) (x2 : Int32) (x3 : Int32) (r : Int32) (M' : Mem) (hf : f_X11_sheet N M x1 x2 x3 = some (r, M')) : Met l yX11_sheet (cW yX11_sheet cX11_sheet 4 (some .int)) (rmv 2 42) (Pw D (tyL g) (wC g a M) [.ref (a 0), .int x1, .int x2, .int x3]) (WrQ D (wC g a M') (inA a 41) (.int r)) 0 0 (inA a 41) := by
  unfold f_X11_sheet at hf
  refine met_inW (A := (inA a 41)) (by decide) (Nat.le_of_ble_eq_true rfl) ?_
  intro p e s m args below meth c ls H locs C hP hS hl
  have C : Cx p s m args meth c cX11_sheet 4 (some .int) RX11 D (tyL g) := C
  obtain ⟨hx, hb, hr, hml, hown, ht, hlocks, hK, hN⟩ := id C
  have hl : lv_has ls 4 [(0, .ref (a 0)), (1, .int x1), (2, .int x2), (3, .int x3)] := hl
  refine lv_aload_n hx hb dX11_sheet_0 rfl (lv_at hl 0 rfl) ?_
  refine lv_iconst (v := 0) hx hb dX11_sheet_1 (by decide) ?_
  refine fp_X11_69 C hP (wC_D hJ) hS dX11_sheet_2 (fun H locs hP hS => ?_)
  obtain ⟨M1, eM1, hf⟩ := nms hf
  have hP : va_P D clL (wC g a M1) H := by rw [eM1]; exact hP
  refine lv_iload_n hx hb dX11_sheet_5 rfl (lv_at hl 1 rfl) ?_
  obtain ⟨r2, e_2, hf⟩ := bns hf
  refine kR (rS (rest := []) C (c_X11_isSheet l D (tyL g) (wC g a M1) x1 r2 e_2) ok_X11_isSheet wd_262 hP ⟨rfl, rfl, Nat.le_of_ble_eq_true rfl, Nat.le_of_ble_eq_true rfl⟩ rfl hl.1 rfl (Nat.le_of_ble_eq_true rfl) dX11_sheet_6 ⟨Nat.le_of_ble_eq_true rfl, Nat.le_of_ble_eq_true rfl⟩) ?_
  refine lv_if_ne (tgt := 14) hx hb dX11_sheet_9 (by decide) (fun c_3 => ?_) (fun c_3 => ?_)
  · have hf := ifn c_3 hf
    refine lv_iload_n hx hb dX11_sheet_14 rfl (lv_at hl 2 rfl) ?_
    obtain ⟨r4, e_4, hf⟩ := bns hf
    refine kR (rS (rest := []) C (c_X11_isSort l D (tyL g) (wC g a M1) x2 r4 e_4) ok_X11_isSort wd_268 hP ⟨rfl, rfl, Nat.le_of_ble_eq_true rfl, Nat.le_of_ble_eq_true rfl⟩ rfl hl.1 rfl (Nat.le_of_ble_eq_true rfl) dX11_sheet_15 ⟨Nat.le_of_ble_eq_true rfl, Nat.le_of_ble_eq_true rfl⟩) ?_
    refine lv_if_eq (tgt := 27) hx hb dX11_sheet_18 (by decide) (fun c_5 => ?_) (fun c_5 => ?_)
    · have hf := ifp c_5 hf
      refine lv_bipush (v := (-2)) hx hb dX11_sheet_27 (by decide) ?_
      obtain ⟨rfl, rfl⟩ := Prod.mk.inj (Option.some.inj hf)
      exact retW C hP hS dX11_sheet_29
    · have hf := ifn c_5 hf
      refine lv_iload_n hx hb dX11_sheet_21 rfl (lv_at hl 3 rfl) ?_
      refine lv_bipush (v := 80) hx hb dX11_sheet_22 (by decide) ?_
      refine lv_icmp_le (tgt := 30) hx hb dX11_sheet_24 (by decide) (fun c_6 => ?_) (fun c_6 => ?_)
      · have hf := ifp c_6 hf
        refine lv_iload_n hx hb dX11_sheet_30 rfl (lv_at hl 3 rfl) ?_
        refine lv_if_ge (tgt := 40) hx hb dX11_sheet_31 (by decide) (fun c_7 => ?_) (fun c_7 => ?_)
        · have hf := ifp c_7 hf
          refine lv_aload_n hx hb dX11_sheet_40 rfl (lv_at hl 0 rfl) ?_
          refine fg_X11_65 C hP dX11_sheet_41 ?_
          refine lv_iload_n hx hb dX11_sheet_44 rfl (lv_at hl 1 rfl) ?_
          obtain ⟨h_8, hf⟩ := ifs hf
          refine va_aldq hx hb hK hP 8 2 (aC_8 g a M1) rfl h_8 dX11_sheet_45 ?_
          refine W.eq (g2 := F0 m 46 ls (.ref (a (9 + (x1.toNatClampNeg))) :: [])) rfl ?_
          refine lv_iload_n hx hb dX11_sheet_46 rfl (lv_at hl 2 rfl) ?_
          refine lv_iload_n hx hb dX11_sheet_47 rfl (lv_at hl 3 rfl) ?_
          obtain ⟨M9, e_9, hf⟩ := bns hf
          refine kWv (rV (rest := []) C (c_X6_renew l D g a hJ N (x1.toNatClampNeg) (k4 h_8) M1 x2 x3 M9 e_9) ok_X6_renew wd_626 hP (9 + (x1.toNatClampNeg)) (aC_S g a M1 (k4 h_8)) rfl ⟨rfl, rfl, Nat.le_of_ble_eq_true rfl, Nat.le_of_ble_eq_true rfl⟩ rfl hl.1 rfl (Nat.le_of_ble_eq_true rfl) dX11_sheet_48 ⟨Nat.le_of_ble_eq_true rfl, Nat.le_of_ble_eq_true rfl⟩) hS (fun H locs hP hS => ?_)
          refine lv_iconst (v := 1) hx hb dX11_sheet_51 (by decide) ?_
          obtain ⟨rfl, rfl⟩ := Prod.mk.inj (Option.some.inj hf)
          exact retW C hP hS dX11_sheet_52
        · have hf := ifn c_7 hf
          refine lv_aload_n hx hb dX11_sheet_34 rfl (lv_at hl 0 rfl) ?_
          refine lv_iconst (v := 4) hx hb dX11_sheet_35 (by decide) ?_
          obtain ⟨q10, e_10, hf⟩ := bns hf
          refine kW (rV (rest := []) C (c_X11_failed l D g a hJ M1 4 q10.1 q10.2 e_10) ok_X11_failed wd_279 hP 0 (aC_0 g a M1) rfl ⟨rfl, rfl, Nat.le_of_ble_eq_true rfl, Nat.le_of_ble_eq_true rfl⟩ rfl hl.1 rfl (Nat.le_of_ble_eq_true rfl) dX11_sheet_36 ⟨Nat.le_of_ble_eq_true rfl, Nat.le_of_ble_eq_true rfl⟩) hS (fun H locs hP hS => ?_)
          obtain ⟨rfl, rfl⟩ := Prod.mk.inj (Option.some.inj hf)
          exact retW C hP hS dX11_sheet_39
      · have hf := ifn c_6 hf
        refine lv_bipush (v := (-2)) hx hb dX11_sheet_27 (by decide) ?_
        obtain ⟨rfl, rfl⟩ := Prod.mk.inj (Option.some.inj hf)
        exact retW C hP hS dX11_sheet_29
  · have hf := ifp c_3 hf
    refine lv_iconst (v := (-1)) hx hb dX11_sheet_12 (by decide) ?_
    obtain ⟨rfl, rfl⟩ := Prod.mk.inj (Option.some.inj hf)
    exact retW C hP hS dX11_sheet_13
set_option maxHeartbeats 4000000 in
set_option maxRecDepth 100000 in
theorem c_X11_lose (l : Launch) (D : va_G) (g : Nat → ClassId) (a : Nat → Nat) (hJ : Inj a 41) (M : Mem) (x1 : Int32) (r : Int32) (M' : Mem) (hf : f_X11_lose M x1 = some (r, M')) : Met l yX11_lose (cW yX11_lose cX11_lose 2 (some .int)) (rmv 2 42) (Pw D (tyL g) (wC g a M) [.ref (a 0), .int x1]) (WrQ D (wC g a M') (inA a 41) (.int r)) 0 0 (inA a 41) := by
  unfold f_X11_lose at hf
  refine met_inW (A := (inA a 41)) (by decide) (Nat.le_of_ble_eq_true rfl) ?_
  intro p e s m args below meth c ls H locs C hP hS hl
  have C : Cx p s m args meth c cX11_lose 2 (some .int) RX11 D (tyL g) := C
  obtain ⟨hx, hb, hr, hml, hown, ht, hlocks, hK, hN⟩ := id C
  have hl : lv_has ls 2 [(0, .ref (a 0)), (1, .int x1)] := hl
  refine lv_iload_n hx hb dX11_lose_0 rfl (lv_at hl 1 rfl) ?_
  obtain ⟨r1, e_1, hf⟩ := bns hf
  refine kR (rS (rest := []) C (c_X11_isSheet l D (tyL g) (wC g a M) x1 r1 e_1) ok_X11_isSheet wd_262 hP ⟨rfl, rfl, Nat.le_of_ble_eq_true rfl, Nat.le_of_ble_eq_true rfl⟩ rfl hl.1 rfl (Nat.le_of_ble_eq_true rfl) dX11_lose_1 ⟨Nat.le_of_ble_eq_true rfl, Nat.le_of_ble_eq_true rfl⟩) ?_
  refine lv_if_ne (tgt := 9) hx hb dX11_lose_4 (by decide) (fun c_2 => ?_) (fun c_2 => ?_)
  · have hf := ifn c_2 hf
    refine lv_aload_n hx hb dX11_lose_9 rfl (lv_at hl 0 rfl) ?_
    refine fg_X11_65 C hP dX11_lose_10 ?_
    refine lv_iload_n hx hb dX11_lose_13 rfl (lv_at hl 1 rfl) ?_
    obtain ⟨h_3, hf⟩ := ifs hf
    refine va_aldq hx hb hK hP 8 2 (aC_8 g a M) rfl h_3 dX11_lose_14 ?_
    refine W.eq (g2 := F0 m 15 ls (.ref (a (9 + (x1.toNatClampNeg))) :: [])) rfl ?_
    obtain ⟨q4, e_4, hf⟩ := bns hf
    refine kW (rV (rest := []) C (c_X6_clear l D g a hJ (x1.toNatClampNeg) (k4 h_3) M q4.1 q4.2 e_4) ok_X6_clear wd_634 hP (9 + (x1.toNatClampNeg)) (aC_S g a M (k4 h_3)) rfl ⟨rfl, rfl, Nat.le_of_ble_eq_true rfl, Nat.le_of_ble_eq_true rfl⟩ rfl hl.1 rfl (Nat.le_of_ble_eq_true rfl) dX11_lose_15 ⟨Nat.le_of_ble_eq_true rfl, Nat.le_of_ble_eq_true rfl⟩) hS (fun H locs hP hS => ?_)
    refine lv_if_eq (tgt := 25) hx hb dX11_lose_18 (by decide) (fun c_5 => ?_) (fun c_5 => ?_)
    · have hf := ifp c_5 hf
      refine lv_iconst (v := 0) hx hb dX11_lose_25 (by decide) ?_
      obtain ⟨rfl, rfl⟩ := Prod.mk.inj (Option.some.inj hf)
      exact retW C hP hS dX11_lose_26
    · have hf := ifn c_5 hf
      refine lv_iconst (v := 1) hx hb dX11_lose_21 (by decide) ?_
      refine lv_goto (tgt := 26) hx hb dX11_lose_22 (by decide) ?_
      obtain ⟨rfl, rfl⟩ := Prod.mk.inj (Option.some.inj hf)
      exact retW C hP hS dX11_lose_26
  · have hf := ifp c_2 hf
    refine lv_iconst (v := (-1)) hx hb dX11_lose_7 (by decide) ?_
    obtain ⟨rfl, rfl⟩ := Prod.mk.inj (Option.some.inj hf)
    exact retW C hP hS dX11_lose_8
