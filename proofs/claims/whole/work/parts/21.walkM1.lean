set_option maxHeartbeats 4000000 in
set_option maxRecDepth 100000 in
theorem c_X12_fails (l : Launch) (D : va_G) (g : Nat → ClassId) (a : Nat → Nat) (hJ : Inj a 18) (M : Mem) (x1 : Int32) (r : Int32) (M' : Mem) (hf : f_X12_fails M x1 = some (r, M')) : Met l yX12_fails (cW yX12_fails cX12_fails 2 (some .int)) (rmv 0 0) (Pw D (tyL g) (wM g a M) [.ref (a 0), .int x1]) (WrQ D (wM g a M') (inA a 18) (.int r)) 0 0 (inA a 18) := by
  unfold f_X12_fails at hf
  refine met_inW (A := (inA a 18)) (by decide) (Nat.le_of_ble_eq_true rfl) ?_
  intro p e s m args below meth c ls H locs C hP hS hl
  have C : Cx p s m args meth c cX12_fails 2 (some .int) RX12 D (tyL g) := C
  obtain ⟨hx, hb, hr, hml, hown, ht, hlocks, hK, hN⟩ := id C
  have hl : lv_has ls 2 [(0, .ref (a 0)), (1, .int x1)] := hl
  refine lv_aload_n hx hb dX12_fails_0 rfl (lv_at hl 0 rfl) ?_
  refine lv_iload_n hx hb dX12_fails_1 rfl (lv_at hl 1 rfl) ?_
  refine fp_X12_62 C hP (wM_D hJ) hS dX12_fails_2 (fun H locs hP hS => ?_)
  obtain ⟨M1, eM1, hf⟩ := nms hf
  have hP : va_P D clL (wM g a M1) H := by rw [eM1]; exact hP
  refine lv_bipush (v := (-10)) hx hb dX12_fails_5 (by decide) ?_
  refine lv_iload_n hx hb dX12_fails_7 rfl (lv_at hl 1 rfl) ?_
  refine lv_isub hx hb dX12_fails_8 ?_
  obtain ⟨rfl, rfl⟩ := Prod.mk.inj (Option.some.inj hf)
  exact retW C hP hS dX12_fails_9
set_option maxHeartbeats 4000000 in
set_option maxRecDepth 100000 in
theorem c_X12_lost (l : Launch) (D : va_G) (g : Nat → ClassId) (a : Nat → Nat) (hJ : Inj a 18) (M : Mem) (x1 : Int32) (r : Int64) (M' : Mem) (hf : f_X12_lost M x1 = some (r, M')) : Met l yX12_lost (cW yX12_lost cX12_lost 2 (some .long)) (rmv 0 0) (Pw D (tyL g) (wM g a M) [.ref (a 0), .int x1]) (WrQ D (wM g a M') (inA a 18) (.long r)) 0 0 (inA a 18) := by
  unfold f_X12_lost at hf
  refine met_inW (A := (inA a 18)) (by decide) (Nat.le_of_ble_eq_true rfl) ?_
  intro p e s m args below meth c ls H locs C hP hS hl
  have C : Cx p s m args meth c cX12_lost 2 (some .long) RX12 D (tyL g) := C
  obtain ⟨hx, hb, hr, hml, hown, ht, hlocks, hK, hN⟩ := id C
  have hl : lv_has ls 2 [(0, .ref (a 0)), (1, .int x1)] := hl
  refine lv_aload_n hx hb dX12_lost_0 rfl (lv_at hl 0 rfl) ?_
  refine lv_iload_n hx hb dX12_lost_1 rfl (lv_at hl 1 rfl) ?_
  refine fp_X12_62 C hP (wM_D hJ) hS dX12_lost_2 (fun H locs hP hS => ?_)
  obtain ⟨M1, eM1, hf⟩ := nms hf
  have hP : va_P D clL (wM g a M1) H := by rw [eM1]; exact hP
  refine lv_ldc2 hx hb hown (ht _ wd_1017) dX12_lost_5 ?_
  obtain ⟨rfl, rfl⟩ := Prod.mk.inj (Option.some.inj hf)
  exact retWl C hP hS dX12_lost_8
set_option maxHeartbeats 4000000 in
set_option maxRecDepth 100000 in
theorem c_X12_against (l : Launch) (D : va_G) (g : Nat → ClassId) (a : Nat → Nat) (M : Mem) (x1 : Int32) (x2 : Int32) (x3 : Int32) (x4 : Int32) (r : Int32) (hf : f_X12_against M x1 x2 x3 x4 = some r) : Met l yX12_against (cW yX12_against cX12_against 5 (some .int)) (rmv 0 0) (Pw D (tyL g) (wM g a M) [.ref (a 0), .int x1, .int x2, .int x3, .int x4]) (RdQ (.int r)) 0 0 nof := by
  unfold f_X12_against at hf
  refine met_in (by decide) (Nat.le_of_ble_eq_true rfl) ?_
  intro p e s m args below meth c ls C hP hl
  have C : Cx p s m args meth c cX12_against 5 (some .int) RX12 D (tyL g) := C
  obtain ⟨hx, hb, hr, hml, hown, ht, hlocks, hK, hN⟩ := id C
  have hl : lv_has ls 5 [(0, .ref (a 0)), (1, .int x1), (2, .int x2), (3, .int x3), (4, .int x4)] := hl
  refine lv_aload_n hx hb dX12_against_0 rfl (lv_at hl 0 rfl) ?_
  refine fg_X12_9 C hP dX12_against_1 ?_
  refine lv_iload_n hx hb dX12_against_4 rfl (lv_at hl 1 rfl) ?_
  obtain ⟨h_1, hf⟩ := ifs hf
  refine va_iald hx hb hK hP 1 0 (aM_1 g a M) rfl h_1 dX12_against_5 ?_
  refine lv_bipush (v := (-9)) hx hb dX12_against_6 (by decide) ?_
  refine lv_icmp_eq (tgt := 23) hx hb dX12_against_8 (by decide) (fun c_2 => ?_) (fun c_2 => ?_)
  · have hf := ifp c_2 hf
    refine lv_aload_n hx hb dX12_against_23 rfl (lv_at hl 0 rfl) ?_
    refine fg_X12_9 C hP dX12_against_24 ?_
    refine lv_iload_n hx hb dX12_against_27 rfl (lv_at hl 1 rfl) ?_
    refine va_iald hx hb hK hP 1 0 (aM_1 g a M) rfl h_1 dX12_against_28 ?_
    refine lv_bipush (v := (-9)) hx hb dX12_against_29 (by decide) ?_
    refine lv_icmp_ne (tgt := 36) hx hb dX12_against_31 (by decide) (fun q => absurd c_2 q) (fun _ => ?_)
    refine lv_iconst (v := 1) hx hb dX12_against_34 (by decide) ?_
    obtain rfl := Option.some.inj hf
    exact retR C dX12_against_35
  · have hf := ifn c_2 hf
    refine lv_aload_n hx hb dX12_against_11 rfl (lv_at hl 0 rfl) ?_
    refine fg_X12_9 C hP dX12_against_12 ?_
    refine lv_iload_n hx hb dX12_against_15 rfl (lv_at hl 1 rfl) ?_
    refine va_iald hx hb hK hP 1 0 (aM_1 g a M) rfl h_1 dX12_against_16 ?_
    refine lv_iload_n hx hb dX12_against_17 rfl (lv_at hl 2 rfl) ?_
    refine lv_icmp_eq (tgt := 23) hx hb dX12_against_18 (by decide) (fun c_3 => ?_) (fun c_3 => ?_)
    · have hf := ifp c_3 hf
      refine lv_aload_n hx hb dX12_against_23 rfl (lv_at hl 0 rfl) ?_
      refine fg_X12_9 C hP dX12_against_24 ?_
      refine lv_iload_n hx hb dX12_against_27 rfl (lv_at hl 1 rfl) ?_
      refine va_iald hx hb hK hP 1 0 (aM_1 g a M) rfl h_1 dX12_against_28 ?_
      refine lv_bipush (v := (-9)) hx hb dX12_against_29 (by decide) ?_
      refine lv_icmp_ne (tgt := 36) hx hb dX12_against_31 (by decide) (fun _ => ?_) (fun q => absurd q c_2)
      refine lv_iload hx hb dX12_against_36 (lv_at hl 4 rfl) ?_
      refine lv_if_ge (tgt := 43) hx hb dX12_against_38 (by decide) (fun c_4 => ?_) (fun c_4 => ?_)
      · have hf := ifp c_4 hf
        refine lv_iload_n hx hb dX12_against_43 rfl (lv_at hl 3 rfl) ?_
        refine lv_if_lt (tgt := 70) hx hb dX12_against_44 (by decide) (fun c_5 => ?_) (fun c_5 => ?_)
        · have hf := ifp c_5 hf
          refine lv_iconst (v := 3) hx hb dX12_against_70 (by decide) ?_
          refine lv_goto (tgt := 75) hx hb dX12_against_71 (by decide) ?_
          obtain rfl := Option.some.inj hf
          exact retR C dX12_against_75
        · have hf := ifn c_5 hf
          refine lv_iload_n hx hb dX12_against_47 rfl (lv_at hl 3 rfl) ?_
          refine lv_aload_n hx hb dX12_against_48 rfl (lv_at hl 0 rfl) ?_
          refine fg_X12_13 C hP dX12_against_49 ?_
          refine lv_iload_n hx hb dX12_against_52 rfl (lv_at hl 1 rfl) ?_
          refine va_iald hx hb hK hP 2 0 (aM_2 g a M) rfl h_1 dX12_against_53 ?_
          refine lv_icmp_gt (tgt := 70) hx hb dX12_against_54 (by decide) (fun c_6 => ?_) (fun c_6 => ?_)
          · have hf := ifp c_6 hf
            refine lv_iconst (v := 3) hx hb dX12_against_70 (by decide) ?_
            refine lv_goto (tgt := 75) hx hb dX12_against_71 (by decide) ?_
            obtain rfl := Option.some.inj hf
            exact retR C dX12_against_75
          · have hf := ifn c_6 hf
            refine lv_iload hx hb dX12_against_57 (lv_at hl 4 rfl) ?_
            refine lv_aload_n hx hb dX12_against_59 rfl (lv_at hl 0 rfl) ?_
            refine fg_X12_13 C hP dX12_against_60 ?_
            refine lv_iload_n hx hb dX12_against_63 rfl (lv_at hl 1 rfl) ?_
            refine va_iald hx hb hK hP 2 0 (aM_2 g a M) rfl h_1 dX12_against_64 ?_
            refine lv_iload_n hx hb dX12_against_65 rfl (lv_at hl 3 rfl) ?_
            refine lv_isub hx hb dX12_against_66 ?_
            refine lv_icmp_le (tgt := 74) hx hb dX12_against_67 (by decide) (fun c_7 => ?_) (fun c_7 => ?_)
            · have hf := ifp c_7 hf
              refine lv_iconst (v := 0) hx hb dX12_against_74 (by decide) ?_
              obtain rfl := Option.some.inj hf
              exact retR C dX12_against_75
            · have hf := ifn c_7 hf
              refine lv_iconst (v := 3) hx hb dX12_against_70 (by decide) ?_
              refine lv_goto (tgt := 75) hx hb dX12_against_71 (by decide) ?_
              obtain rfl := Option.some.inj hf
              exact retR C dX12_against_75
      · have hf := ifn c_4 hf
        refine lv_iconst (v := 4) hx hb dX12_against_41 (by decide) ?_
        obtain rfl := Option.some.inj hf
        exact retR C dX12_against_42
    · have hf := ifn c_3 hf
      refine lv_iconst (v := 2) hx hb dX12_against_21 (by decide) ?_
      obtain rfl := Option.some.inj hf
      exact retR C dX12_against_22
set_option maxHeartbeats 4000000 in
set_option maxRecDepth 100000 in
theorem c_X12_all (l : Launch) (D : va_G) (g : Nat → ClassId) (a : Nat → Nat) (M : Mem) (r : Int32) (hf : f_X12_all M = some r) : Met l yX12_all (cW yX12_all cX12_all 1 (some .int)) (rmv 0 0) (Pw D (tyL g) (wM g a M) [.ref (a 0)]) (RdQ (.int r)) 0 0 nof := by
  unfold f_X12_all at hf
  refine met_in (by decide) (Nat.le_of_ble_eq_true rfl) ?_
  intro p e s m args below meth c ls C hP hl
  have C : Cx p s m args meth c cX12_all 1 (some .int) RX12 D (tyL g) := C
  obtain ⟨hx, hb, hr, hml, hown, ht, hlocks, hK, hN⟩ := id C
  have hl : lv_has ls 1 [(0, .ref (a 0))] := hl
  refine lv_aload_n hx hb dX12_all_0 rfl (lv_at hl 0 rfl) ?_
  refine fg_X12_72 C hP dX12_all_1 ?_
  refine lv_aload_n hx hb dX12_all_4 rfl (lv_at hl 0 rfl) ?_
  refine fg_X12_75 C hP dX12_all_5 ?_
  refine lv_imul hx hb dX12_all_8 ?_
  obtain rfl := Option.some.inj hf
  exact retR C dX12_all_9
set_option maxHeartbeats 4000000 in
set_option maxRecDepth 100000 in
theorem c_X12_isStone (l : Launch) (D : va_G) (g : Nat → ClassId) (a : Nat → Nat) (M : Mem) (x1 : Int32) (r : Int32) (hf : f_X12_isStone M x1 = some r) : Met l yX12_isStone (cW yX12_isStone cX12_isStone 2 (some .boolean)) (rmv 1 20) (Pw D (tyL g) (wM g a M) [.ref (a 0), .int x1]) (RdQ (.int r)) 0 0 nof := by
  unfold f_X12_isStone at hf
  refine met_in (by decide) (Nat.le_of_ble_eq_true rfl) ?_
  intro p e s m args below meth c ls C hP hl
  have C : Cx p s m args meth c cX12_isStone 2 (some .boolean) RX12 D (tyL g) := C
  obtain ⟨hx, hb, hr, hml, hown, ht, hlocks, hK, hN⟩ := id C
  have hl : lv_has ls 2 [(0, .ref (a 0)), (1, .int x1)] := hl
  refine lv_iload_n hx hb dX12_isStone_0 rfl (lv_at hl 1 rfl) ?_
  refine lv_if_lt (tgt := 16) hx hb dX12_isStone_1 (by decide) (fun c_1 => ?_) (fun c_1 => ?_)
  · have hf := ifp c_1 hf
    refine lv_iconst (v := 0) hx hb dX12_isStone_16 (by decide) ?_
    obtain rfl := Option.some.inj hf
    exact retRz C (Or.inl rfl) dX12_isStone_17
  · have hf := ifn c_1 hf
    refine lv_iload_n hx hb dX12_isStone_4 rfl (lv_at hl 1 rfl) ?_
    refine lv_aload_n hx hb dX12_isStone_5 rfl (lv_at hl 0 rfl) ?_
    obtain ⟨r2, e_2, hf⟩ := bns hf
    refine kR (rV (rest := [.int x1]) C (c_X12_all l D g a M r2 e_2) ok_X12_all wd_842 hP 0 (aM_0 g a M) rfl ⟨rfl, rfl, Nat.le_of_ble_eq_true rfl, Nat.le_of_ble_eq_true rfl⟩ rfl hl.1 rfl (Nat.le_of_ble_eq_true rfl) dX12_isStone_6 ⟨Nat.le_of_ble_eq_true rfl, Nat.le_of_ble_eq_true rfl⟩) ?_
    refine lv_icmp_ge (tgt := 16) hx hb dX12_isStone_9 (by decide) (fun c_3 => ?_) (fun c_3 => ?_)
    · have hf := ifp c_3 hf
      refine lv_iconst (v := 0) hx hb dX12_isStone_16 (by decide) ?_
      obtain rfl := Option.some.inj hf
      exact retRz C (Or.inl rfl) dX12_isStone_17
    · have hf := ifn c_3 hf
      refine lv_iconst (v := 1) hx hb dX12_isStone_12 (by decide) ?_
      refine lv_goto (tgt := 17) hx hb dX12_isStone_13 (by decide) ?_
      obtain rfl := Option.some.inj hf
      exact retRz C (Or.inr rfl) dX12_isStone_17
set_option maxHeartbeats 4000000 in
set_option maxRecDepth 100000 in
theorem c_X12_digit (l : Launch) (D : va_G) (g : Nat → ClassId) (a : Nat → Nat) (hJ : Inj a 18) (M : Mem) (x1 : Int32) (x2 : Int32) (x3 : Int32) (r : Int32) (M' : Mem) (hf : f_X12_digit M x1 x2 x3 = some (r, M')) : Met l yX12_digit (cW yX12_digit cX12_digit 4 (some .int)) (rmv 1 22) (Pw D (tyL g) (wM g a M) [.ref (a 0), .int x1, .int x2, .int x3]) (WrQ D (wM g a M') (inA a 18) (.int r)) 0 0 (inA a 18) := by
  unfold f_X12_digit at hf
  refine met_inW (A := (inA a 18)) (by decide) (Nat.le_of_ble_eq_true rfl) ?_
  intro p e s m args below meth c ls H locs C hP hS hl
  have C : Cx p s m args meth c cX12_digit 4 (some .int) RX12 D (tyL g) := C
  obtain ⟨hx, hb, hr, hml, hown, ht, hlocks, hK, hN⟩ := id C
  have hl : lv_has ls 4 [(0, .ref (a 0)), (1, .int x1), (2, .int x2), (3, .int x3)] := hl
  refine lv_aload_n hx hb dX12_digit_0 rfl (lv_at hl 0 rfl) ?_
  refine fg_X12_82 C hP dX12_digit_1 ?_
  refine lv_iload_n hx hb dX12_digit_4 rfl (lv_at hl 1 rfl) ?_
  refine lv_icmp_ge (tgt := 31) hx hb dX12_digit_5 (by decide) (fun c_1 => ?_) (fun c_1 => ?_)
  · have hf := ifp c_1 hf
    refine lv_bipush (v := (-9)) hx hb dX12_digit_31 (by decide) ?_
    obtain ⟨rfl, rfl⟩ := Prod.mk.inj (Option.some.inj hf)
    exact retW C hP hS dX12_digit_33
  · have hf := ifn c_1 hf
    refine lv_aload_n hx hb dX12_digit_8 rfl (lv_at hl 0 rfl) ?_
    refine fg_X12_16 C hP dX12_digit_9 ?_
    refine lv_aload_n hx hb dX12_digit_12 rfl (lv_at hl 0 rfl) ?_
    refine fg_X12_82 C hP dX12_digit_13 ?_
    obtain ⟨h_2, hf⟩ := ifs hf
    refine va_iald hx hb hK hP 3 0 (aM_3 g a M) rfl h_2 dX12_digit_16 ?_
    refine lv_bipush (v := 48) hx hb dX12_digit_17 (by decide) ?_
    refine lv_iload_n hx hb dX12_digit_19 rfl (lv_at hl 2 rfl) ?_
    refine lv_iadd hx hb dX12_digit_20 ?_
    refine lv_bipush (v := 48) hx hb dX12_digit_21 (by decide) ?_
    refine lv_iload_n hx hb dX12_digit_23 rfl (lv_at hl 3 rfl) ?_
    refine lv_iadd hx hb dX12_digit_24 ?_
    obtain ⟨r3, e_3, hf⟩ := bns hf
    refine kR (rS (rest := []) C (c_X12_within l D (tyL g) (wM g a M) (M 3 (M 0 12).toNatClampNeg) (48 + x2) (48 + x3) r3 e_3) ok_X12_within wd_816 hP ⟨rfl, rfl, Nat.le_of_ble_eq_true rfl, Nat.le_of_ble_eq_true rfl⟩ rfl hl.1 rfl (Nat.le_of_ble_eq_true rfl) dX12_digit_25 ⟨Nat.le_of_ble_eq_true rfl, Nat.le_of_ble_eq_true rfl⟩) ?_
    refine lv_if_ne (tgt := 34) hx hb dX12_digit_28 (by decide) (fun c_4 => ?_) (fun c_4 => ?_)
    · have hf := ifn c_4 hf
      refine lv_aload_n hx hb dX12_digit_34 rfl (lv_at hl 0 rfl) ?_
      refine lv_dup hx hb dX12_digit_35 rfl ?_
      refine fg_X12_82 C hP dX12_digit_36 ?_
      refine lv_iconst (v := 1) hx hb dX12_digit_39 (by decide) ?_
      refine lv_iadd hx hb dX12_digit_40 ?_
      refine fp_X12_82 C hP (wM_D hJ) hS dX12_digit_41 (fun H locs hP hS => ?_)
      obtain ⟨M5, eM5, hf⟩ := nms hf
      have hP : va_P D clL (wM g a M5) H := by rw [eM5]; exact hP
      refine lv_aload_n hx hb dX12_digit_44 rfl (lv_at hl 0 rfl) ?_
      refine fg_X12_16 C hP dX12_digit_45 ?_
      refine lv_aload_n hx hb dX12_digit_48 rfl (lv_at hl 0 rfl) ?_
      refine fg_X12_82 C hP dX12_digit_49 ?_
      refine lv_iconst (v := 1) hx hb dX12_digit_52 (by decide) ?_
      refine lv_isub hx hb dX12_digit_53 ?_
      obtain ⟨h_6, hf⟩ := ifs hf
      refine va_iald hx hb hK hP 3 0 (aM_3 g a M5) rfl h_6 dX12_digit_54 ?_
      refine lv_bipush (v := 48) hx hb dX12_digit_55 (by decide) ?_
      refine lv_isub hx hb dX12_digit_57 ?_
      obtain ⟨rfl, rfl⟩ := Prod.mk.inj (Option.some.inj hf)
      exact retW C hP hS dX12_digit_58
    · have hf := ifp c_4 hf
      refine lv_bipush (v := (-9)) hx hb dX12_digit_31 (by decide) ?_
      obtain ⟨rfl, rfl⟩ := Prod.mk.inj (Option.some.inj hf)
      exact retW C hP hS dX12_digit_33
set_option maxHeartbeats 4000000 in
set_option maxRecDepth 100000 in
theorem c_X12_readStone (l : Launch) (D : va_G) (g : Nat → ClassId) (a : Nat → Nat) (hJ : Inj a 18) (M : Mem) (x1 : Int32) (x2 : Int32) (r : Int32) (M' : Mem) (hf : f_X12_readStone M x1 x2 = some (r, M')) : Met l yX12_readStone (cW yX12_readStone cX12_readStone 4 (some .boolean)) (rmv 2 45) (Pw D (tyL g) (wM g a M) [.ref (a 0), .int x1, .int x2]) (WrQ D (wM g a M') (inA a 18) (.int r)) 0 0 (inA a 18) := by
  unfold f_X12_readStone at hf
  refine met_inW (A := (inA a 18)) (by decide) (Nat.le_of_ble_eq_true rfl) ?_
  intro p e s m args below meth c ls H locs C hP hS hl
  have C : Cx p s m args meth c cX12_readStone 4 (some .boolean) RX12 D (tyL g) := C
  obtain ⟨hx, hb, hr, hml, hown, ht, hlocks, hK, hN⟩ := id C
  have hl : lv_has ls 4 [(0, .ref (a 0)), (1, .int x1), (2, .int x2)] := hl
  refine lv_aload_n hx hb dX12_readStone_0 rfl (lv_at hl 0 rfl) ?_
  refine fg_X12_82 C hP dX12_readStone_1 ?_
  refine lv_iload_n hx hb dX12_readStone_4 rfl (lv_at hl 1 rfl) ?_
  refine lv_icmp_lt (tgt := 10) hx hb dX12_readStone_5 (by decide) (fun c_1 => ?_) (fun c_1 => ?_)
  · have hf := ifp c_1 hf
    refine lv_aload_n hx hb dX12_readStone_10 rfl (lv_at hl 0 rfl) ?_
    refine fg_X12_16 C hP dX12_readStone_11 ?_
    refine lv_aload_n hx hb dX12_readStone_14 rfl (lv_at hl 0 rfl) ?_
    refine fg_X12_82 C hP dX12_readStone_15 ?_
    obtain ⟨h_2, hf⟩ := ifs hf
    refine va_iald hx hb hK hP 3 0 (aM_3 g a M) rfl h_2 dX12_readStone_18 ?_
    refine lv_topi (fun z3 ez3 => ?_)
    have hf := nmr ez3 hf
    refine lv_istore_n (lv' := [(3, .int z3), (0, .ref (a 0)), (1, .int x1), (2, .int x2)]) hx hb dX12_readStone_19 rfl hl (by decide) rfl (fun ls hl => ?_)
    refine lv_aload_n hx hb dX12_readStone_20 rfl (lv_at hl 1 rfl) ?_
    refine fg_X12_34 C hP dX12_readStone_21 ?_
    refine lv_iload_n hx hb dX12_readStone_24 rfl (lv_at hl 3 rfl) ?_
    refine lv_iload_n hx hb dX12_readStone_25 rfl (lv_at hl 0 rfl) ?_
    refine lv_bipush (v := 115) hx hb dX12_readStone_26 (by decide) ?_
    refine lv_icmp_ne (tgt := 35) hx hb dX12_readStone_28 (by decide) (fun c_4 => ?_) (fun c_4 => ?_)
    · have hf := ifn c_4 hf
      refine lv_iload_n hx hb dX12_readStone_35 rfl (lv_at hl 0 rfl) ?_
      refine lv_bipush (v := 99) hx hb dX12_readStone_36 (by decide) ?_
      refine lv_icmp_ne (tgt := 45) hx hb dX12_readStone_38 (by decide) (fun c_5 => ?_) (fun c_5 => ?_)
      · have hf := ifn c_5 hf
        refine lv_iload_n hx hb dX12_readStone_45 rfl (lv_at hl 0 rfl) ?_
        refine lv_bipush (v := 102) hx hb dX12_readStone_46 (by decide) ?_
        refine lv_icmp_ne (tgt := 55) hx hb dX12_readStone_48 (by decide) (fun c_6 => ?_) (fun c_6 => ?_)
        · have hf := ifn c_6 hf
          refine lv_bipush (v := (-9)) hx hb dX12_readStone_55 (by decide) ?_
          obtain ⟨h_7, hf⟩ := ifs hf
          refine ast (wM g a) C hP (wM_D hJ) hS 9 0 (aM_9 g a M) rfl (sM_9 g a M) h_7 dX12_readStone_57 (fun H locs hP hS => ?_)
          obtain ⟨M8, eM8, hf⟩ := nms hf
          have hP : va_P D clL (wM g a M8) H := by rw [eM8]; exact hP
          refine lv_aload_n hx hb dX12_readStone_58 rfl (lv_at hl 1 rfl) ?_
          refine fg_X12_34 C hP dX12_readStone_59 ?_
          refine lv_iload_n hx hb dX12_readStone_62 rfl (lv_at hl 3 rfl) ?_
          refine va_iald hx hb hK hP 9 0 (aM_9 g a M8) rfl h_7 dX12_readStone_63 ?_
          refine lv_bipush (v := (-9)) hx hb dX12_readStone_64 (by decide) ?_
          refine lv_icmp_ne (tgt := 71) hx hb dX12_readStone_66 (by decide) (fun c_9 => ?_) (fun c_9 => ?_)
          · have hf := ifn c_9 hf
            refine lv_aload_n hx hb dX12_readStone_71 rfl (lv_at hl 1 rfl) ?_
            refine lv_dup hx hb dX12_readStone_72 rfl ?_
            refine fg_X12_82 C hP dX12_readStone_73 ?_
            refine lv_iconst (v := 1) hx hb dX12_readStone_76 (by decide) ?_
            refine lv_iadd hx hb dX12_readStone_77 ?_
            refine fp_X12_82 C hP (wM_D hJ) hS dX12_readStone_78 (fun H locs hP hS => ?_)
            obtain ⟨M10, eM10, hf⟩ := nms hf
            have hP : va_P D clL (wM g a M10) H := by rw [eM10]; exact hP
            refine lv_aload_n hx hb dX12_readStone_81 rfl (lv_at hl 1 rfl) ?_
            refine fg_X12_37 C hP dX12_readStone_82 ?_
            refine lv_iload_n hx hb dX12_readStone_85 rfl (lv_at hl 3 rfl) ?_
            refine lv_aload_n hx hb dX12_readStone_86 rfl (lv_at hl 1 rfl) ?_
            refine lv_iload_n hx hb dX12_readStone_87 rfl (lv_at hl 2 rfl) ?_
            refine lv_iconst (v := 0) hx hb dX12_readStone_88 (by decide) ?_
            refine lv_bipush (v := 9) hx hb dX12_readStone_89 (by decide) ?_
            obtain ⟨q11, e_11, hf⟩ := bns hf
            refine kW (rV (rest := [.int x2, .ref (a 10)]) C (c_X12_digit l D g a hJ M10 x1 0 9 q11.1 q11.2 e_11) ok_X12_digit wd_834 hP 0 (aM_0 g a M10) rfl ⟨rfl, rfl, Nat.le_of_ble_eq_true rfl, Nat.le_of_ble_eq_true rfl⟩ rfl hl.1 rfl (Nat.le_of_ble_eq_true rfl) dX12_readStone_91 ⟨Nat.le_of_ble_eq_true rfl, Nat.le_of_ble_eq_true rfl⟩) hS (fun H locs hP hS => ?_)
            refine ast (wM g a) C hP (wM_D hJ) hS 10 0 (aM_10 g a q11.2) rfl (sM_10 g a q11.2) h_7 dX12_readStone_94 (fun H locs hP hS => ?_)
            obtain ⟨M12, eM12, hf⟩ := nms hf
            have hP : va_P D clL (wM g a M12) H := by rw [eM12]; exact hP
            refine lv_aload_n hx hb dX12_readStone_95 rfl (lv_at hl 1 rfl) ?_
            refine fg_X12_37 C hP dX12_readStone_96 ?_
            refine lv_iload_n hx hb dX12_readStone_99 rfl (lv_at hl 3 rfl) ?_
            refine va_iald hx hb hK hP 10 0 (aM_10 g a M12) rfl h_7 dX12_readStone_100 ?_
            refine lv_bipush (v := (-9)) hx hb dX12_readStone_101 (by decide) ?_
            refine lv_icmp_eq (tgt := 110) hx hb dX12_readStone_103 (by decide) (fun c_13 => ?_) (fun c_13 => ?_)
            · have hf := ifp c_13 hf
              refine lv_iconst (v := 0) hx hb dX12_readStone_110 (by decide) ?_
              obtain ⟨rfl, rfl⟩ := Prod.mk.inj (Option.some.inj hf)
              exact retWz C (Or.inl rfl) hP hS dX12_readStone_111
            · have hf := ifn c_13 hf
              refine lv_iconst (v := 1) hx hb dX12_readStone_106 (by decide) ?_
              refine lv_goto (tgt := 111) hx hb dX12_readStone_107 (by decide) ?_
              obtain ⟨rfl, rfl⟩ := Prod.mk.inj (Option.some.inj hf)
              exact retWz C (Or.inr rfl) hP hS dX12_readStone_111
          · have hf := ifp c_9 hf
            refine lv_iconst (v := 0) hx hb dX12_readStone_69 (by decide) ?_
            obtain ⟨rfl, rfl⟩ := Prod.mk.inj (Option.some.inj hf)
            exact retWz C (Or.inl rfl) hP hS dX12_readStone_70
        · have hf := ifp c_6 hf
          refine lv_iconst (v := 2) hx hb dX12_readStone_51 (by decide) ?_
          refine lv_goto (tgt := 57) hx hb dX12_readStone_52 (by decide) ?_
          obtain ⟨h_14, hf⟩ := ifs hf
          refine ast (wM g a) C hP (wM_D hJ) hS 9 0 (aM_9 g a M) rfl (sM_9 g a M) h_14 dX12_readStone_57 (fun H locs hP hS => ?_)
          obtain ⟨M15, eM15, hf⟩ := nms hf
          have hP : va_P D clL (wM g a M15) H := by rw [eM15]; exact hP
          refine lv_aload_n hx hb dX12_readStone_58 rfl (lv_at hl 1 rfl) ?_
          refine fg_X12_34 C hP dX12_readStone_59 ?_
          refine lv_iload_n hx hb dX12_readStone_62 rfl (lv_at hl 3 rfl) ?_
          refine va_iald hx hb hK hP 9 0 (aM_9 g a M15) rfl h_14 dX12_readStone_63 ?_
          refine lv_bipush (v := (-9)) hx hb dX12_readStone_64 (by decide) ?_
          refine lv_icmp_ne (tgt := 71) hx hb dX12_readStone_66 (by decide) (fun c_16 => ?_) (fun c_16 => ?_)
          · have hf := ifn c_16 hf
            refine lv_aload_n hx hb dX12_readStone_71 rfl (lv_at hl 1 rfl) ?_
            refine lv_dup hx hb dX12_readStone_72 rfl ?_
            refine fg_X12_82 C hP dX12_readStone_73 ?_
            refine lv_iconst (v := 1) hx hb dX12_readStone_76 (by decide) ?_
            refine lv_iadd hx hb dX12_readStone_77 ?_
            refine fp_X12_82 C hP (wM_D hJ) hS dX12_readStone_78 (fun H locs hP hS => ?_)
            obtain ⟨M17, eM17, hf⟩ := nms hf
            have hP : va_P D clL (wM g a M17) H := by rw [eM17]; exact hP
            refine lv_aload_n hx hb dX12_readStone_81 rfl (lv_at hl 1 rfl) ?_
            refine fg_X12_37 C hP dX12_readStone_82 ?_
            refine lv_iload_n hx hb dX12_readStone_85 rfl (lv_at hl 3 rfl) ?_
            refine lv_aload_n hx hb dX12_readStone_86 rfl (lv_at hl 1 rfl) ?_
            refine lv_iload_n hx hb dX12_readStone_87 rfl (lv_at hl 2 rfl) ?_
            refine lv_iconst (v := 0) hx hb dX12_readStone_88 (by decide) ?_
            refine lv_bipush (v := 9) hx hb dX12_readStone_89 (by decide) ?_
            obtain ⟨q18, e_18, hf⟩ := bns hf
            refine kW (rV (rest := [.int x2, .ref (a 10)]) C (c_X12_digit l D g a hJ M17 x1 0 9 q18.1 q18.2 e_18) ok_X12_digit wd_834 hP 0 (aM_0 g a M17) rfl ⟨rfl, rfl, Nat.le_of_ble_eq_true rfl, Nat.le_of_ble_eq_true rfl⟩ rfl hl.1 rfl (Nat.le_of_ble_eq_true rfl) dX12_readStone_91 ⟨Nat.le_of_ble_eq_true rfl, Nat.le_of_ble_eq_true rfl⟩) hS (fun H locs hP hS => ?_)
            refine ast (wM g a) C hP (wM_D hJ) hS 10 0 (aM_10 g a q18.2) rfl (sM_10 g a q18.2) h_14 dX12_readStone_94 (fun H locs hP hS => ?_)
            obtain ⟨M19, eM19, hf⟩ := nms hf
            have hP : va_P D clL (wM g a M19) H := by rw [eM19]; exact hP
            refine lv_aload_n hx hb dX12_readStone_95 rfl (lv_at hl 1 rfl) ?_
            refine fg_X12_37 C hP dX12_readStone_96 ?_
            refine lv_iload_n hx hb dX12_readStone_99 rfl (lv_at hl 3 rfl) ?_
            refine va_iald hx hb hK hP 10 0 (aM_10 g a M19) rfl h_14 dX12_readStone_100 ?_
            refine lv_bipush (v := (-9)) hx hb dX12_readStone_101 (by decide) ?_
            refine lv_icmp_eq (tgt := 110) hx hb dX12_readStone_103 (by decide) (fun c_20 => ?_) (fun c_20 => ?_)
            · have hf := ifp c_20 hf
              refine lv_iconst (v := 0) hx hb dX12_readStone_110 (by decide) ?_
              obtain ⟨rfl, rfl⟩ := Prod.mk.inj (Option.some.inj hf)
              exact retWz C (Or.inl rfl) hP hS dX12_readStone_111
            · have hf := ifn c_20 hf
              refine lv_iconst (v := 1) hx hb dX12_readStone_106 (by decide) ?_
              refine lv_goto (tgt := 111) hx hb dX12_readStone_107 (by decide) ?_
              obtain ⟨rfl, rfl⟩ := Prod.mk.inj (Option.some.inj hf)
              exact retWz C (Or.inr rfl) hP hS dX12_readStone_111
          · have hf := ifp c_16 hf
            refine lv_iconst (v := 0) hx hb dX12_readStone_69 (by decide) ?_
            obtain ⟨rfl, rfl⟩ := Prod.mk.inj (Option.some.inj hf)
            exact retWz C (Or.inl rfl) hP hS dX12_readStone_70
      · have hf := ifp c_5 hf
        refine lv_iconst (v := 1) hx hb dX12_readStone_41 (by decide) ?_
        refine lv_goto (tgt := 57) hx hb dX12_readStone_42 (by decide) ?_
        obtain ⟨h_21, hf⟩ := ifs hf
        refine ast (wM g a) C hP (wM_D hJ) hS 9 0 (aM_9 g a M) rfl (sM_9 g a M) h_21 dX12_readStone_57 (fun H locs hP hS => ?_)
        obtain ⟨M22, eM22, hf⟩ := nms hf
        have hP : va_P D clL (wM g a M22) H := by rw [eM22]; exact hP
        refine lv_aload_n hx hb dX12_readStone_58 rfl (lv_at hl 1 rfl) ?_
        refine fg_X12_34 C hP dX12_readStone_59 ?_
        refine lv_iload_n hx hb dX12_readStone_62 rfl (lv_at hl 3 rfl) ?_
        refine va_iald hx hb hK hP 9 0 (aM_9 g a M22) rfl h_21 dX12_readStone_63 ?_
        refine lv_bipush (v := (-9)) hx hb dX12_readStone_64 (by decide) ?_
        refine lv_icmp_ne (tgt := 71) hx hb dX12_readStone_66 (by decide) (fun c_23 => ?_) (fun c_23 => ?_)
        · have hf := ifn c_23 hf
          refine lv_aload_n hx hb dX12_readStone_71 rfl (lv_at hl 1 rfl) ?_
          refine lv_dup hx hb dX12_readStone_72 rfl ?_
          refine fg_X12_82 C hP dX12_readStone_73 ?_
          refine lv_iconst (v := 1) hx hb dX12_readStone_76 (by decide) ?_
          refine lv_iadd hx hb dX12_readStone_77 ?_
          refine fp_X12_82 C hP (wM_D hJ) hS dX12_readStone_78 (fun H locs hP hS => ?_)
          obtain ⟨M24, eM24, hf⟩ := nms hf
          have hP : va_P D clL (wM g a M24) H := by rw [eM24]; exact hP
          refine lv_aload_n hx hb dX12_readStone_81 rfl (lv_at hl 1 rfl) ?_
          refine fg_X12_37 C hP dX12_readStone_82 ?_
          refine lv_iload_n hx hb dX12_readStone_85 rfl (lv_at hl 3 rfl) ?_
          refine lv_aload_n hx hb dX12_readStone_86 rfl (lv_at hl 1 rfl) ?_
          refine lv_iload_n hx hb dX12_readStone_87 rfl (lv_at hl 2 rfl) ?_
          refine lv_iconst (v := 0) hx hb dX12_readStone_88 (by decide) ?_
          refine lv_bipush (v := 9) hx hb dX12_readStone_89 (by decide) ?_
          obtain ⟨q25, e_25, hf⟩ := bns hf
          refine kW (rV (rest := [.int x2, .ref (a 10)]) C (c_X12_digit l D g a hJ M24 x1 0 9 q25.1 q25.2 e_25) ok_X12_digit wd_834 hP 0 (aM_0 g a M24) rfl ⟨rfl, rfl, Nat.le_of_ble_eq_true rfl, Nat.le_of_ble_eq_true rfl⟩ rfl hl.1 rfl (Nat.le_of_ble_eq_true rfl) dX12_readStone_91 ⟨Nat.le_of_ble_eq_true rfl, Nat.le_of_ble_eq_true rfl⟩) hS (fun H locs hP hS => ?_)
          refine ast (wM g a) C hP (wM_D hJ) hS 10 0 (aM_10 g a q25.2) rfl (sM_10 g a q25.2) h_21 dX12_readStone_94 (fun H locs hP hS => ?_)
          obtain ⟨M26, eM26, hf⟩ := nms hf
          have hP : va_P D clL (wM g a M26) H := by rw [eM26]; exact hP
          refine lv_aload_n hx hb dX12_readStone_95 rfl (lv_at hl 1 rfl) ?_
          refine fg_X12_37 C hP dX12_readStone_96 ?_
          refine lv_iload_n hx hb dX12_readStone_99 rfl (lv_at hl 3 rfl) ?_
          refine va_iald hx hb hK hP 10 0 (aM_10 g a M26) rfl h_21 dX12_readStone_100 ?_
          refine lv_bipush (v := (-9)) hx hb dX12_readStone_101 (by decide) ?_
          refine lv_icmp_eq (tgt := 110) hx hb dX12_readStone_103 (by decide) (fun c_27 => ?_) (fun c_27 => ?_)
          · have hf := ifp c_27 hf
            refine lv_iconst (v := 0) hx hb dX12_readStone_110 (by decide) ?_
            obtain ⟨rfl, rfl⟩ := Prod.mk.inj (Option.some.inj hf)
            exact retWz C (Or.inl rfl) hP hS dX12_readStone_111
          · have hf := ifn c_27 hf
            refine lv_iconst (v := 1) hx hb dX12_readStone_106 (by decide) ?_
            refine lv_goto (tgt := 111) hx hb dX12_readStone_107 (by decide) ?_
            obtain ⟨rfl, rfl⟩ := Prod.mk.inj (Option.some.inj hf)
            exact retWz C (Or.inr rfl) hP hS dX12_readStone_111
        · have hf := ifp c_23 hf
          refine lv_iconst (v := 0) hx hb dX12_readStone_69 (by decide) ?_
          obtain ⟨rfl, rfl⟩ := Prod.mk.inj (Option.some.inj hf)
          exact retWz C (Or.inl rfl) hP hS dX12_readStone_70
    · have hf := ifp c_4 hf
      refine lv_iconst (v := 0) hx hb dX12_readStone_31 (by decide) ?_
      refine lv_goto (tgt := 57) hx hb dX12_readStone_32 (by decide) ?_
      obtain ⟨h_28, hf⟩ := ifs hf
      refine ast (wM g a) C hP (wM_D hJ) hS 9 0 (aM_9 g a M) rfl (sM_9 g a M) h_28 dX12_readStone_57 (fun H locs hP hS => ?_)
      obtain ⟨M29, eM29, hf⟩ := nms hf
      have hP : va_P D clL (wM g a M29) H := by rw [eM29]; exact hP
      refine lv_aload_n hx hb dX12_readStone_58 rfl (lv_at hl 1 rfl) ?_
      refine fg_X12_34 C hP dX12_readStone_59 ?_
      refine lv_iload_n hx hb dX12_readStone_62 rfl (lv_at hl 3 rfl) ?_
      refine va_iald hx hb hK hP 9 0 (aM_9 g a M29) rfl h_28 dX12_readStone_63 ?_
      refine lv_bipush (v := (-9)) hx hb dX12_readStone_64 (by decide) ?_
      refine lv_icmp_ne (tgt := 71) hx hb dX12_readStone_66 (by decide) (fun c_30 => ?_) (fun c_30 => ?_)
      · have hf := ifn c_30 hf
        refine lv_aload_n hx hb dX12_readStone_71 rfl (lv_at hl 1 rfl) ?_
        refine lv_dup hx hb dX12_readStone_72 rfl ?_
        refine fg_X12_82 C hP dX12_readStone_73 ?_
        refine lv_iconst (v := 1) hx hb dX12_readStone_76 (by decide) ?_
        refine lv_iadd hx hb dX12_readStone_77 ?_
        refine fp_X12_82 C hP (wM_D hJ) hS dX12_readStone_78 (fun H locs hP hS => ?_)
        obtain ⟨M31, eM31, hf⟩ := nms hf
        have hP : va_P D clL (wM g a M31) H := by rw [eM31]; exact hP
        refine lv_aload_n hx hb dX12_readStone_81 rfl (lv_at hl 1 rfl) ?_
        refine fg_X12_37 C hP dX12_readStone_82 ?_
        refine lv_iload_n hx hb dX12_readStone_85 rfl (lv_at hl 3 rfl) ?_
        refine lv_aload_n hx hb dX12_readStone_86 rfl (lv_at hl 1 rfl) ?_
        refine lv_iload_n hx hb dX12_readStone_87 rfl (lv_at hl 2 rfl) ?_
        refine lv_iconst (v := 0) hx hb dX12_readStone_88 (by decide) ?_
        refine lv_bipush (v := 9) hx hb dX12_readStone_89 (by decide) ?_
        obtain ⟨q32, e_32, hf⟩ := bns hf
        refine kW (rV (rest := [.int x2, .ref (a 10)]) C (c_X12_digit l D g a hJ M31 x1 0 9 q32.1 q32.2 e_32) ok_X12_digit wd_834 hP 0 (aM_0 g a M31) rfl ⟨rfl, rfl, Nat.le_of_ble_eq_true rfl, Nat.le_of_ble_eq_true rfl⟩ rfl hl.1 rfl (Nat.le_of_ble_eq_true rfl) dX12_readStone_91 ⟨Nat.le_of_ble_eq_true rfl, Nat.le_of_ble_eq_true rfl⟩) hS (fun H locs hP hS => ?_)
        refine ast (wM g a) C hP (wM_D hJ) hS 10 0 (aM_10 g a q32.2) rfl (sM_10 g a q32.2) h_28 dX12_readStone_94 (fun H locs hP hS => ?_)
        obtain ⟨M33, eM33, hf⟩ := nms hf
        have hP : va_P D clL (wM g a M33) H := by rw [eM33]; exact hP
        refine lv_aload_n hx hb dX12_readStone_95 rfl (lv_at hl 1 rfl) ?_
        refine fg_X12_37 C hP dX12_readStone_96 ?_
        refine lv_iload_n hx hb dX12_readStone_99 rfl (lv_at hl 3 rfl) ?_
        refine va_iald hx hb hK hP 10 0 (aM_10 g a M33) rfl h_28 dX12_readStone_100 ?_
        refine lv_bipush (v := (-9)) hx hb dX12_readStone_101 (by decide) ?_
        refine lv_icmp_eq (tgt := 110) hx hb dX12_readStone_103 (by decide) (fun c_34 => ?_) (fun c_34 => ?_)
        · have hf := ifp c_34 hf
          refine lv_iconst (v := 0) hx hb dX12_readStone_110 (by decide) ?_
          obtain ⟨rfl, rfl⟩ := Prod.mk.inj (Option.some.inj hf)
          exact retWz C (Or.inl rfl) hP hS dX12_readStone_111
        · have hf := ifn c_34 hf
          refine lv_iconst (v := 1) hx hb dX12_readStone_106 (by decide) ?_
          refine lv_goto (tgt := 111) hx hb dX12_readStone_107 (by decide) ?_
          obtain ⟨rfl, rfl⟩ := Prod.mk.inj (Option.some.inj hf)
          exact retWz C (Or.inr rfl) hP hS dX12_readStone_111
      · have hf := ifp c_30 hf
        refine lv_iconst (v := 0) hx hb dX12_readStone_69 (by decide) ?_
        obtain ⟨rfl, rfl⟩ := Prod.mk.inj (Option.some.inj hf)
        exact retWz C (Or.inl rfl) hP hS dX12_readStone_70
  · have hf := ifn c_1 hf
    refine lv_iconst (v := 0) hx hb dX12_readStone_8 (by decide) ?_
    obtain ⟨rfl, rfl⟩ := Prod.mk.inj (Option.some.inj hf)
    exact retWz C (Or.inl rfl) hP hS dX12_readStone_9
set_option maxHeartbeats 4000000 in
set_option maxRecDepth 100000 in
theorem w_X12_readSquare_l125 {p : Program} {l : Launch} {e : Env} {s : State} {m : MethodId} {args : Array Value} {below : List Frame} {meth : Method} {c : Code} {D : va_G} {g : Nat → ClassId} {a : Nat → Nat} (C : Cx p s m args meth c cX12_readSquare 4 (some .boolean) RX12 D (tyL g)) (hJ : Inj a 18) (N : Nat) (x1 : Int32) (x2 : Int32) (r : Int32) (M' : Mem) (kc : Mem → Option (Int32 × Mem)) (hkc : ∀ (M : Mem), ∀ (H : Heap) (locs : List Loc), va_P D clL (wM g a M) H → va_S (inA a 18) s.heap H locs → ∀ (ls : Array Slot), lv_has ls 4 [(0, .ref (a 0)), (1, .int x1), (2, .int x2)] → kc M = some (r, M') → W p l e (rmv 3 68) s m args below meth c H locs 0 0 (MQ below (WrQ D (wM g a M') (inA a 18) (.int r)) args s 0 0 (inA a 18)) (F0 m 157 ls [])) :
    ∀ (n : Nat) (M : Mem) (x3 : Int32), ∀ (H : Heap) (locs : List Loc), va_P D clL (wM g a M) H → va_S (inA a 18) s.heap H locs → ∀ (ls : Array Slot), lv_has ls 4 [(0, .ref (a 0)), (1, .int x1), (2, .int x2), (3, .int x3)] → f_X12_readSquare_l125 kc N x1 x2 n M x3 = some (r, M') → W p l e (rmv 3 68) s m args below meth c H locs 0 0 (MQ below (WrQ D (wM g a M') (inA a 18) (.int r)) args s 0 0 (inA a 18)) (F0 m 125 ls []) := by
  obtain ⟨hx, hb, hr, hml, hown, ht, hlocks, hK, hN⟩ := id C
  intro n
  induction n with
  | zero =>
    intro M x3 H locs hP hS ls hl hf
    exact nos hf
  | succ n ih =>
    intro M x3 H locs hP hS ls hl hf
    rw [f_X12_readSquare_l125] at hf
    refine lv_iload_n hx hb dX12_readSquare_125 rfl (lv_at hl 3 rfl) ?_
    refine lv_aload_n hx hb dX12_readSquare_126 rfl (lv_at hl 0 rfl) ?_
    refine fg_X12_106 C hP dX12_readSquare_127 ?_
    refine lv_icmp_ge (tgt := 157) hx hb dX12_readSquare_130 (by decide) (fun c_17 => ?_) (fun c_17 => ?_)
    · have hf := ifp c_17 hf
      exact hkc M H locs hP hS ls (lv_sub hl [0, 1, 2] rfl) hf
    · have hf := ifn c_17 hf
      refine lv_aload_n hx hb dX12_readSquare_133 rfl (lv_at hl 0 rfl) ?_
      refine lv_iload_n hx hb dX12_readSquare_134 rfl (lv_at hl 1 rfl) ?_
      refine lv_aload_n hx hb dX12_readSquare_135 rfl (lv_at hl 0 rfl) ?_
      refine fg_X12_106 C hP dX12_readSquare_136 ?_
      refine lv_iload_n hx hb dX12_readSquare_139 rfl (lv_at hl 2 rfl) ?_
      refine lv_imul hx hb dX12_readSquare_140 ?_
      refine lv_iload_n hx hb dX12_readSquare_141 rfl (lv_at hl 3 rfl) ?_
      refine lv_iadd hx hb dX12_readSquare_142 ?_
      obtain ⟨q18, e_18, hf⟩ := bns hf
      refine kW (rV (rest := []) C (c_X12_readStone l D g a hJ M x1 (((M 0 14) * x2) + x3) q18.1 q18.2 e_18) ok_X12_readStone wd_838 hP 0 (aM_0 g a M) rfl ⟨rfl, rfl, Nat.le_of_ble_eq_true rfl, Nat.le_of_ble_eq_true rfl⟩ rfl hl.1 rfl (Nat.le_of_ble_eq_true rfl) dX12_readSquare_143 ⟨Nat.le_of_ble_eq_true rfl, Nat.le_of_ble_eq_true rfl⟩) hS (fun H locs hP hS => ?_)
      refine lv_if_ne (tgt := 151) hx hb dX12_readSquare_146 (by decide) (fun c_19 => ?_) (fun c_19 => ?_)
      · have hf := ifn c_19 hf
        refine lv_iinc (v := (x3 + 1)) (lv' := [(3, .int (x3 + 1)), (0, .ref (a 0)), (1, .int x1), (2, .int x2)]) hx hb dX12_readSquare_151 hl (k := 3) rfl rfl (by decide) rfl (fun ls hl => ?_)
        refine lv_goto (tgt := 125) hx hb dX12_readSquare_154 (by decide) ?_
        exact ih q18.2 (x3 + 1) H locs hP hS ls (lv_sub hl [1, 2, 3, 0] rfl) hf
      · have hf := ifp c_19 hf
        refine lv_iconst (v := 0) hx hb dX12_readSquare_149 (by decide) ?_
        obtain ⟨rfl, rfl⟩ := Prod.mk.inj (Option.some.inj hf)
        exact retWz C (Or.inl rfl) hP hS dX12_readSquare_150
set_option maxHeartbeats 4000000 in
set_option maxRecDepth 100000 in
theorem w_X12_readSquare_l81 {p : Program} {l : Launch} {e : Env} {s : State} {m : MethodId} {args : Array Value} {below : List Frame} {meth : Method} {c : Code} {D : va_G} {g : Nat → ClassId} {a : Nat → Nat} (C : Cx p s m args meth c cX12_readSquare 4 (some .boolean) RX12 D (tyL g)) (hJ : Inj a 18) (N : Nat) (x1 : Int32) (r : Int32) (M' : Mem) :
    ∀ (n : Nat) (M : Mem) (x2 : Int32), ∀ (H : Heap) (locs : List Loc), va_P D clL (wM g a M) H → va_S (inA a 18) s.heap H locs → ∀ (ls : Array Slot), lv_has ls 4 [(0, .ref (a 0)), (1, .int x1), (2, .int x2)] → f_X12_readSquare_l81 N x1 n M x2 = some (r, M') → W p l e (rmv 3 68) s m args below meth c H locs 0 0 (MQ below (WrQ D (wM g a M') (inA a 18) (.int r)) args s 0 0 (inA a 18)) (F0 m 81 ls []) := by
  obtain ⟨hx, hb, hr, hml, hown, ht, hlocks, hK, hN⟩ := id C
  intro n
  induction n with
  | zero =>
    intro M x2 H locs hP hS ls hl hf
    exact nos hf
  | succ n ih =>
    intro M x2 H locs hP hS ls hl hf
    rw [f_X12_readSquare_l81] at hf
    refine lv_iload_n hx hb dX12_readSquare_81 rfl (lv_at hl 2 rfl) ?_
    refine lv_aload_n hx hb dX12_readSquare_82 rfl (lv_at hl 0 rfl) ?_
    refine fg_X12_103 C hP dX12_readSquare_83 ?_
    refine lv_icmp_ge (tgt := 163) hx hb dX12_readSquare_86 (by decide) (fun c_11 => ?_) (fun c_11 => ?_)
    · have hf := ifp c_11 hf
      refine lv_aload_n hx hb dX12_readSquare_163 rfl (lv_at hl 0 rfl) ?_
      refine fg_X12_82 C hP dX12_readSquare_164 ?_
      refine lv_iload_n hx hb dX12_readSquare_167 rfl (lv_at hl 1 rfl) ?_
      refine lv_icmp_ne (tgt := 175) hx hb dX12_readSquare_168 (by decide) (fun c_12 => ?_) (fun c_12 => ?_)
      · have hf := ifn c_12 hf
        refine lv_iconst (v := 0) hx hb dX12_readSquare_175 (by decide) ?_
        obtain ⟨rfl, rfl⟩ := Prod.mk.inj (Option.some.inj hf)
        exact retWz C (Or.inl rfl) hP hS dX12_readSquare_176
      · have hf := ifp c_12 hf
        refine lv_iconst (v := 1) hx hb dX12_readSquare_171 (by decide) ?_
        refine lv_goto (tgt := 176) hx hb dX12_readSquare_172 (by decide) ?_
        obtain ⟨rfl, rfl⟩ := Prod.mk.inj (Option.some.inj hf)
        exact retWz C (Or.inr rfl) hP hS dX12_readSquare_176
    · have hf := ifn c_11 hf
      refine lv_aload_n hx hb dX12_readSquare_89 rfl (lv_at hl 0 rfl) ?_
      refine fg_X12_82 C hP dX12_readSquare_90 ?_
      refine lv_iload_n hx hb dX12_readSquare_93 rfl (lv_at hl 1 rfl) ?_
      refine lv_icmp_ge (tgt := 111) hx hb dX12_readSquare_94 (by decide) (fun c_13 => ?_) (fun c_13 => ?_)
      · have hf := ifp c_13 hf
        refine lv_iconst (v := 0) hx hb dX12_readSquare_111 (by decide) ?_
        obtain ⟨rfl, rfl⟩ := Prod.mk.inj (Option.some.inj hf)
        exact retWz C (Or.inl rfl) hP hS dX12_readSquare_112
      · have hf := ifn c_13 hf
        refine lv_aload_n hx hb dX12_readSquare_97 rfl (lv_at hl 0 rfl) ?_
        refine fg_X12_16 C hP dX12_readSquare_98 ?_
        refine lv_aload_n hx hb dX12_readSquare_101 rfl (lv_at hl 0 rfl) ?_
        refine fg_X12_82 C hP dX12_readSquare_102 ?_
        obtain ⟨h_14, hf⟩ := ifs hf
        refine va_iald hx hb hK hP 3 0 (aM_3 g a M) rfl h_14 dX12_readSquare_105 ?_
        refine lv_bipush (v := 59) hx hb dX12_readSquare_106 (by decide) ?_
        refine lv_icmp_eq (tgt := 113) hx hb dX12_readSquare_108 (by decide) (fun c_15 => ?_) (fun c_15 => ?_)
        · have hf := ifp c_15 hf
          refine lv_aload_n hx hb dX12_readSquare_113 rfl (lv_at hl 0 rfl) ?_
          refine lv_dup hx hb dX12_readSquare_114 rfl ?_
          refine fg_X12_82 C hP dX12_readSquare_115 ?_
          refine lv_iconst (v := 1) hx hb dX12_readSquare_118 (by decide) ?_
          refine lv_iadd hx hb dX12_readSquare_119 ?_
          refine fp_X12_82 C hP (wM_D hJ) hS dX12_readSquare_120 (fun H locs hP hS => ?_)
          obtain ⟨M16, eM16, hf⟩ := nms hf
          have hP : va_P D clL (wM g a M16) H := by rw [eM16]; exact hP
          refine lv_iconst (v := 0) hx hb dX12_readSquare_123 (by decide) ?_
          refine lv_istore_n (lv' := [(3, .int 0), (0, .ref (a 0)), (1, .int x1), (2, .int x2)]) hx hb dX12_readSquare_124 rfl hl (by decide) rfl (fun ls hl => ?_)
          refine w_X12_readSquare_l125 C hJ N x1 x2 r M' _ (fun M20 H locs hP hS ls hl hf => ?_) N M16 0 H locs hP hS ls (lv_sub hl [1, 2, 3, 0] rfl) hf
          refine lv_iinc (v := (x2 + 1)) (lv' := [(2, .int (x2 + 1)), (0, .ref (a 0)), (1, .int x1)]) hx hb dX12_readSquare_157 hl (k := 2) rfl rfl (by decide) rfl (fun ls hl => ?_)
          refine lv_goto (tgt := 81) hx hb dX12_readSquare_160 (by decide) ?_
          exact ih M20 (x2 + 1) H locs hP hS ls (lv_sub hl [1, 2, 0] rfl) hf
        · have hf := ifn c_15 hf
          refine lv_iconst (v := 0) hx hb dX12_readSquare_111 (by decide) ?_
          obtain ⟨rfl, rfl⟩ := Prod.mk.inj (Option.some.inj hf)
          exact retWz C (Or.inl rfl) hP hS dX12_readSquare_112
set_option maxHeartbeats 4000000 in
set_option maxRecDepth 100000 in
theorem c_X12_readSquare (l : Launch) (D : va_G) (g : Nat → ClassId) (a : Nat → Nat) (hJ : Inj a 18) (N : Nat) (M : Mem) (x1 : Int32) (r : Int32) (M' : Mem) (hf : f_X12_readSquare N M x1 = some (r, M')) : Met l yX12_readSquare (cW yX12_readSquare cX12_readSquare 4 (some .boolean)) (rmv 3 68) (Pw D (tyL g) (wM g a M) [.ref (a 0), .int x1]) (WrQ D (wM g a M') (inA a 18) (.int r)) 0 0 (inA a 18) := by
  unfold f_X12_readSquare at hf
  refine met_inW (A := (inA a 18)) (by decide) (Nat.le_of_ble_eq_true rfl) ?_
  intro p e s m args below meth c ls H locs C hP hS hl
  have C : Cx p s m args meth c cX12_readSquare 4 (some .boolean) RX12 D (tyL g) := C
  obtain ⟨hx, hb, hr, hml, hown, ht, hlocks, hK, hN⟩ := id C
  have hl : lv_has ls 4 [(0, .ref (a 0)), (1, .int x1)] := hl
  refine lv_aload_n hx hb dX12_readSquare_0 rfl (lv_at hl 0 rfl) ?_
  refine fg_X12_82 C hP dX12_readSquare_1 ?_
  refine lv_iload_n hx hb dX12_readSquare_4 rfl (lv_at hl 1 rfl) ?_
  refine lv_icmp_ge (tgt := 22) hx hb dX12_readSquare_5 (by decide) (fun c_1 => ?_) (fun c_1 => ?_)
  · have hf := ifp c_1 hf
    refine lv_iconst (v := 0) hx hb dX12_readSquare_22 (by decide) ?_
    obtain ⟨rfl, rfl⟩ := Prod.mk.inj (Option.some.inj hf)
    exact retWz C (Or.inl rfl) hP hS dX12_readSquare_23
  · have hf := ifn c_1 hf
    refine lv_aload_n hx hb dX12_readSquare_8 rfl (lv_at hl 0 rfl) ?_
    refine fg_X12_16 C hP dX12_readSquare_9 ?_
    refine lv_aload_n hx hb dX12_readSquare_12 rfl (lv_at hl 0 rfl) ?_
    refine fg_X12_82 C hP dX12_readSquare_13 ?_
    obtain ⟨h_2, hf⟩ := ifs hf
    refine va_iald hx hb hK hP 3 0 (aM_3 g a M) rfl h_2 dX12_readSquare_16 ?_
    refine lv_bipush (v := 113) hx hb dX12_readSquare_17 (by decide) ?_
    refine lv_icmp_eq (tgt := 24) hx hb dX12_readSquare_19 (by decide) (fun c_3 => ?_) (fun c_3 => ?_)
    · have hf := ifp c_3 hf
      refine lv_aload_n hx hb dX12_readSquare_24 rfl (lv_at hl 0 rfl) ?_
      refine lv_dup hx hb dX12_readSquare_25 rfl ?_
      refine fg_X12_82 C hP dX12_readSquare_26 ?_
      refine lv_iconst (v := 1) hx hb dX12_readSquare_29 (by decide) ?_
      refine lv_iadd hx hb dX12_readSquare_30 ?_
      refine fp_X12_82 C hP (wM_D hJ) hS dX12_readSquare_31 (fun H locs hP hS => ?_)
      obtain ⟨M4, eM4, hf⟩ := nms hf
      have hP : va_P D clL (wM g a M4) H := by rw [eM4]; exact hP
      refine lv_aload_n hx hb dX12_readSquare_34 rfl (lv_at hl 0 rfl) ?_
      refine lv_aload_n hx hb dX12_readSquare_35 rfl (lv_at hl 0 rfl) ?_
      refine lv_iload_n hx hb dX12_readSquare_36 rfl (lv_at hl 1 rfl) ?_
      refine lv_iconst (v := 2) hx hb dX12_readSquare_37 (by decide) ?_
      refine lv_iconst (v := 5) hx hb dX12_readSquare_38 (by decide) ?_
      obtain ⟨q5, e_5, hf⟩ := bns hf
      refine kW (rV (rest := [.ref (a 0)]) C (c_X12_digit l D g a hJ M4 x1 2 5 q5.1 q5.2 e_5) ok_X12_digit wd_834 hP 0 (aM_0 g a M4) rfl ⟨rfl, rfl, Nat.le_of_ble_eq_true rfl, Nat.le_of_ble_eq_true rfl⟩ rfl hl.1 rfl (Nat.le_of_ble_eq_true rfl) dX12_readSquare_39 ⟨Nat.le_of_ble_eq_true rfl, Nat.le_of_ble_eq_true rfl⟩) hS (fun H locs hP hS => ?_)
      refine fp_X12_103 C hP (wM_D hJ) hS dX12_readSquare_42 (fun H locs hP hS => ?_)
      obtain ⟨M6, eM6, hf⟩ := nms hf
      have hP : va_P D clL (wM g a M6) H := by rw [eM6]; exact hP
      refine lv_aload_n hx hb dX12_readSquare_45 rfl (lv_at hl 0 rfl) ?_
      refine fg_X12_103 C hP dX12_readSquare_46 ?_
      refine lv_bipush (v := (-9)) hx hb dX12_readSquare_49 (by decide) ?_
      refine lv_icmp_ne (tgt := 56) hx hb dX12_readSquare_51 (by decide) (fun c_7 => ?_) (fun c_7 => ?_)
      · have hf := ifn c_7 hf
        refine lv_aload_n hx hb dX12_readSquare_56 rfl (lv_at hl 0 rfl) ?_
        refine lv_aload_n hx hb dX12_readSquare_57 rfl (lv_at hl 0 rfl) ?_
        refine lv_iload_n hx hb dX12_readSquare_58 rfl (lv_at hl 1 rfl) ?_
        refine lv_iconst (v := 2) hx hb dX12_readSquare_59 (by decide) ?_
        refine lv_bipush (v := 6) hx hb dX12_readSquare_60 (by decide) ?_
        obtain ⟨q8, e_8, hf⟩ := bns hf
        refine kW (rV (rest := [.ref (a 0)]) C (c_X12_digit l D g a hJ M6 x1 2 6 q8.1 q8.2 e_8) ok_X12_digit wd_834 hP 0 (aM_0 g a M6) rfl ⟨rfl, rfl, Nat.le_of_ble_eq_true rfl, Nat.le_of_ble_eq_true rfl⟩ rfl hl.1 rfl (Nat.le_of_ble_eq_true rfl) dX12_readSquare_62 ⟨Nat.le_of_ble_eq_true rfl, Nat.le_of_ble_eq_true rfl⟩) hS (fun H locs hP hS => ?_)
        refine fp_X12_106 C hP (wM_D hJ) hS dX12_readSquare_65 (fun H locs hP hS => ?_)
        obtain ⟨M9, eM9, hf⟩ := nms hf
        have hP : va_P D clL (wM g a M9) H := by rw [eM9]; exact hP
        refine lv_aload_n hx hb dX12_readSquare_68 rfl (lv_at hl 0 rfl) ?_
        refine fg_X12_106 C hP dX12_readSquare_69 ?_
        refine lv_bipush (v := (-9)) hx hb dX12_readSquare_72 (by decide) ?_
        refine lv_icmp_ne (tgt := 79) hx hb dX12_readSquare_74 (by decide) (fun c_10 => ?_) (fun c_10 => ?_)
        · have hf := ifn c_10 hf
          refine lv_iconst (v := 0) hx hb dX12_readSquare_79 (by decide) ?_
          refine lv_istore_n (lv' := [(2, .int 0), (0, .ref (a 0)), (1, .int x1)]) hx hb dX12_readSquare_80 rfl hl (by decide) rfl (fun ls hl => ?_)
          exact w_X12_readSquare_l81 C hJ N x1 r M' N M9 0 H locs hP hS ls (lv_sub hl [1, 2, 0] rfl) hf
        · have hf := ifp c_10 hf
          refine lv_iconst (v := 0) hx hb dX12_readSquare_77 (by decide) ?_
          obtain ⟨rfl, rfl⟩ := Prod.mk.inj (Option.some.inj hf)
          exact retWz C (Or.inl rfl) hP hS dX12_readSquare_78
      · have hf := ifp c_7 hf
        refine lv_iconst (v := 0) hx hb dX12_readSquare_54 (by decide) ?_
        obtain ⟨rfl, rfl⟩ := Prod.mk.inj (Option.some.inj hf)
        exact retWz C (Or.inl rfl) hP hS dX12_readSquare_55
    · have hf := ifn c_3 hf
      refine lv_iconst (v := 0) hx hb dX12_readSquare_22 (by decide) ?_
      obtain ⟨rfl, rfl⟩ := Prod.mk.inj (Option.some.inj hf)
      exact retWz C (Or.inl rfl) hP hS dX12_readSquare_23
set_option maxHeartbeats 4000000 in
set_option maxRecDepth 100000 in
theorem w_X12_square_l157 {p : Program} {l : Launch} {e : Env} {s : State} {m : MethodId} {args : Array Value} {below : List Frame} {meth : Method} {c : Code} {D : va_G} {g : Nat → ClassId} {a : Nat → Nat} (C : Cx p s m args meth c cX12_square 8 (some .int) RX12 D (tyL g)) (hJ : Inj a 18) (N : Nat) (r : Int32) (M' : Mem) :
    ∀ (n : Nat) (M : Mem) (x7 : Int32), ∀ (H : Heap) (locs : List Loc), va_P D clL (wM g a M) H → va_S (inA a 18) s.heap H locs → ∀ (ls : Array Slot), lv_has ls 8 [(0, .ref (a 0)), (7, .int x7)] → f_X12_square_l157 N n M x7 = some (r, M') → W p l e (rmv 4 91) s m args below meth c H locs 0 0 (MQ below (WrQ D (wM g a M') (inA a 18) (.int r)) args s 0 0 (inA a 18)) (F0 m 157 ls []) := by
  obtain ⟨hx, hb, hr, hml, hown, ht, hlocks, hK, hN⟩ := id C
  intro n
  induction n with
  | zero =>
    intro M x7 H locs hP hS ls hl hf
    exact nos hf
  | succ n ih =>
    intro M x7 H locs hP hS ls hl hf
    rw [f_X12_square_l157] at hf
    refine lv_iload hx hb dX12_square_157 (lv_at hl 1 rfl) ?_
    refine lv_bipush (v := 12) hx hb dX12_square_159 (by decide) ?_
    refine lv_icmp_ge (tgt := 186) hx hb dX12_square_161 (by decide) (fun c_16 => ?_) (fun c_16 => ?_)
    · have hf := ifp c_16 hf
      refine lv_aload_n hx hb dX12_square_186 rfl (lv_at hl 0 rfl) ?_
      refine lv_iconst (v := 0) hx hb dX12_square_187 (by decide) ?_
      refine fp_X12_109 C hP (wM_D hJ) hS dX12_square_188 (fun H locs hP hS => ?_)
      obtain ⟨M17, eM17, hf⟩ := nms hf
      have hP : va_P D clL (wM g a M17) H := by rw [eM17]; exact hP
      refine lv_aload_n hx hb dX12_square_191 rfl (lv_at hl 0 rfl) ?_
      obtain ⟨r18, e_18, hf⟩ := bns hf
      refine kR (rV (rest := []) C (c_X12_all l D g a M17 r18 e_18) ok_X12_all wd_842 hP 0 (aM_0 g a M17) rfl ⟨rfl, rfl, Nat.le_of_ble_eq_true rfl, Nat.le_of_ble_eq_true rfl⟩ rfl hl.1 rfl (Nat.le_of_ble_eq_true rfl) dX12_square_192 ⟨Nat.le_of_ble_eq_true rfl, Nat.le_of_ble_eq_true rfl⟩) ?_
      obtain ⟨rfl, rfl⟩ := Prod.mk.inj (Option.some.inj hf)
      exact retW C hP hS dX12_square_195
    · have hf := ifn c_16 hf
      refine lv_aload_n hx hb dX12_square_164 rfl (lv_at hl 0 rfl) ?_
      refine fg_X12_28 C hP dX12_square_165 ?_
      refine lv_iload hx hb dX12_square_168 (lv_at hl 1 rfl) ?_
      refine lv_iconst (v := 0) hx hb dX12_square_170 (by decide) ?_
      obtain ⟨h_19, hf⟩ := ifs hf
      refine ast (wM g a) C hP (wM_D hJ) hS 7 0 (aM_7 g a M) rfl (sM_7 g a M) h_19 dX12_square_171 (fun H locs hP hS => ?_)
      obtain ⟨M20, eM20, hf⟩ := nms hf
      have hP : va_P D clL (wM g a M20) H := by rw [eM20]; exact hP
      refine lv_aload_n hx hb dX12_square_172 rfl (lv_at hl 0 rfl) ?_
      refine fg_X12_31 C hP dX12_square_173 ?_
      refine lv_iload hx hb dX12_square_176 (lv_at hl 1 rfl) ?_
      refine lv_iconst (v := 0) hx hb dX12_square_178 (by decide) ?_
      refine ast (wM g a) C hP (wM_D hJ) hS 8 0 (aM_8 g a M20) rfl (sM_8 g a M20) h_19 dX12_square_179 (fun H locs hP hS => ?_)
      obtain ⟨M21, eM21, hf⟩ := nms hf
      have hP : va_P D clL (wM g a M21) H := by rw [eM21]; exact hP
      refine lv_iinc (v := (x7 + 1)) (lv' := [(7, .int (x7 + 1)), (0, .ref (a 0))]) hx hb dX12_square_180 hl (k := 1) rfl rfl (by decide) rfl (fun ls hl => ?_)
      refine lv_goto (tgt := 157) hx hb dX12_square_183 (by decide) ?_
      exact ih M21 (x7 + 1) H locs hP hS ls (lv_sub hl [1, 0] rfl) hf
set_option maxHeartbeats 4000000 in
set_option maxRecDepth 100000 in
theorem w_X12_square_l103 {p : Program} {l : Launch} {e : Env} {s : State} {m : MethodId} {args : Array Value} {below : List Frame} {meth : Method} {c : Code} {D : va_G} {g : Nat → ClassId} {a : Nat → Nat} (C : Cx p s m args meth c cX12_square 8 (some .int) RX12 D (tyL g)) (hJ : Inj a 18) (N : Nat) (r : Int32) (M' : Mem) :
    ∀ (n : Nat) (M : Mem) (x7 : Int32), ∀ (H : Heap) (locs : List Loc), va_P D clL (wM g a M) H → va_S (inA a 18) s.heap H locs → ∀ (ls : Array Slot), lv_has ls 8 [(0, .ref (a 0)), (7, .int x7)] → f_X12_square_l103 N n M x7 = some (r, M') → W p l e (rmv 4 91) s m args below meth c H locs 0 0 (MQ below (WrQ D (wM g a M') (inA a 18) (.int r)) args s 0 0 (inA a 18)) (F0 m 103 ls []) := by
  obtain ⟨hx, hb, hr, hml, hown, ht, hlocks, hK, hN⟩ := id C
  intro n
  induction n with
  | zero =>
    intro M x7 H locs hP hS ls hl hf
    exact nos hf
  | succ n ih =>
    intro M x7 H locs hP hS ls hl hf
    rw [f_X12_square_l103] at hf
    refine lv_iload hx hb dX12_square_103 (lv_at hl 1 rfl) ?_
    refine lv_aload_n hx hb dX12_square_105 rfl (lv_at hl 0 rfl) ?_
    obtain ⟨r14, e_14, hf⟩ := bns hf
    refine kR (rV (rest := [.int x7]) C (c_X12_all l D g a M r14 e_14) ok_X12_all wd_842 hP 0 (aM_0 g a M) rfl ⟨rfl, rfl, Nat.le_of_ble_eq_true rfl, Nat.le_of_ble_eq_true rfl⟩ rfl hl.1 rfl (Nat.le_of_ble_eq_true rfl) dX12_square_106 ⟨Nat.le_of_ble_eq_true rfl, Nat.le_of_ble_eq_true rfl⟩) ?_
    refine lv_icmp_ge (tgt := 154) hx hb dX12_square_109 (by decide) (fun c_15 => ?_) (fun c_15 => ?_)
    · have hf := ifp c_15 hf
      refine lv_iconst (v := 0) hx hb dX12_square_154 (by decide) ?_
      refine lv_istore (lv' := [(7, .int 0), (0, .ref (a 0))]) hx hb dX12_square_155 hl (by decide) rfl (fun ls hl => ?_)
      exact w_X12_square_l157 C hJ N r M' N M 0 H locs hP hS ls (lv_sub hl [1, 0] rfl) hf
    · have hf := ifn c_15 hf
      refine lv_aload_n hx hb dX12_square_112 rfl (lv_at hl 0 rfl) ?_
      refine fg_X12_19 C hP dX12_square_113 ?_
      refine lv_iload hx hb dX12_square_116 (lv_at hl 1 rfl) ?_
      refine lv_aload_n hx hb dX12_square_118 rfl (lv_at hl 0 rfl) ?_
      refine fg_X12_34 C hP dX12_square_119 ?_
      refine lv_iload hx hb dX12_square_122 (lv_at hl 1 rfl) ?_
      obtain ⟨h_22, hf⟩ := ifs hf
      refine va_iald hx hb hK hP 9 0 (aM_9 g a M) rfl h_22 dX12_square_124 ?_
      refine ast (wM g a) C hP (wM_D hJ) hS 4 0 (aM_4 g a M) rfl (sM_4 g a M) h_22 dX12_square_125 (fun H locs hP hS => ?_)
      obtain ⟨M23, eM23, hf⟩ := nms hf
      have hP : va_P D clL (wM g a M23) H := by rw [eM23]; exact hP
      refine lv_aload_n hx hb dX12_square_126 rfl (lv_at hl 0 rfl) ?_
      refine fg_X12_22 C hP dX12_square_127 ?_
      refine lv_iload hx hb dX12_square_130 (lv_at hl 1 rfl) ?_
      refine lv_aload_n hx hb dX12_square_132 rfl (lv_at hl 0 rfl) ?_
      refine fg_X12_37 C hP dX12_square_133 ?_
      refine lv_iload hx hb dX12_square_136 (lv_at hl 1 rfl) ?_
      refine va_iald hx hb hK hP 10 0 (aM_10 g a M23) rfl h_22 dX12_square_138 ?_
      refine ast (wM g a) C hP (wM_D hJ) hS 5 0 (aM_5 g a M23) rfl (sM_5 g a M23) h_22 dX12_square_139 (fun H locs hP hS => ?_)
      obtain ⟨M24, eM24, hf⟩ := nms hf
      have hP : va_P D clL (wM g a M24) H := by rw [eM24]; exact hP
      refine lv_aload_n hx hb dX12_square_140 rfl (lv_at hl 0 rfl) ?_
      refine fg_X12_25 C hP dX12_square_141 ?_
      refine lv_iload hx hb dX12_square_144 (lv_at hl 1 rfl) ?_
      refine lv_iconst (v := 0) hx hb dX12_square_146 (by decide) ?_
      refine ast (wM g a) C hP (wM_D hJ) hS 6 0 (aM_6 g a M24) rfl (sM_6 g a M24) h_22 dX12_square_147 (fun H locs hP hS => ?_)
      obtain ⟨M25, eM25, hf⟩ := nms hf
      have hP : va_P D clL (wM g a M25) H := by rw [eM25]; exact hP
      refine lv_iinc (v := (x7 + 1)) (lv' := [(7, .int (x7 + 1)), (0, .ref (a 0))]) hx hb dX12_square_148 hl (k := 1) rfl rfl (by decide) rfl (fun ls hl => ?_)
      refine lv_goto (tgt := 103) hx hb dX12_square_151 (by decide) ?_
      exact ih M25 (x7 + 1) H locs hP hS ls (lv_sub hl [1, 0] rfl) hf
set_option maxHeartbeats 4000000 in
set_option maxRecDepth 100000 in
theorem c_X12_square (l : Launch) (D : va_G) (g : Nat → ClassId) (a : Nat → Nat) (hJ : Inj a 18) (N : Nat) (M : Mem) (x1 : Int32) (x2 : Int32) (x3 : Int32) (x4 : Int32) (r : Int32) (M' : Mem) (hf : f_X12_square N M x1 x2 x3 x4 = some (r, M')) : Met l yX12_square (cW yX12_square cX12_square 8 (some .int)) (rmv 4 91) (Pw D (tyL g) (wM g a M) [.ref (a 0), .int x1, .int x2, .int x3, .int x4]) (WrQ D (wM g a M') (inA a 18) (.int r)) 0 0 (inA a 18) := by
  unfold f_X12_square at hf
  refine met_inW (A := (inA a 18)) (by decide) (Nat.le_of_ble_eq_true rfl) ?_
  intro p e s m args below meth c ls H locs C hP hS hl
  have C : Cx p s m args meth c cX12_square 8 (some .int) RX12 D (tyL g) := C
  obtain ⟨hx, hb, hr, hml, hown, ht, hlocks, hK, hN⟩ := id C
  have hl : lv_has ls 8 [(0, .ref (a 0)), (1, .int x1), (2, .int x2), (3, .int x3), (4, .int x4)] := hl
  refine lv_aload_n hx hb dX12_square_0 rfl (lv_at hl 0 rfl) ?_
  refine lv_iconst (v := 0) hx hb dX12_square_1 (by decide) ?_
  refine fp_X12_62 C hP (wM_D hJ) hS dX12_square_2 (fun H locs hP hS => ?_)
  obtain ⟨M1, eM1, hf⟩ := nms hf
  have hP : va_P D clL (wM g a M1) H := by rw [eM1]; exact hP
  refine lv_iload_n hx hb dX12_square_5 rfl (lv_at hl 1 rfl) ?_
  obtain ⟨r2, e_2, hf⟩ := bns hf
  refine kR (rS (rest := []) C (c_X12_isSheet l D (tyL g) (wM g a M1) x1 r2 e_2) ok_X12_isSheet wd_813 hP ⟨rfl, rfl, Nat.le_of_ble_eq_true rfl, Nat.le_of_ble_eq_true rfl⟩ rfl hl.1 rfl (Nat.le_of_ble_eq_true rfl) dX12_square_6 ⟨Nat.le_of_ble_eq_true rfl, Nat.le_of_ble_eq_true rfl⟩) ?_
  refine lv_if_ne (tgt := 14) hx hb dX12_square_9 (by decide) (fun c_3 => ?_) (fun c_3 => ?_)
  · have hf := ifn c_3 hf
    refine lv_iload_n hx hb dX12_square_14 rfl (lv_at hl 2 rfl) ?_
    obtain ⟨r4, e_4, hf⟩ := bns hf
    refine kR (rS (rest := []) C (c_X12_isSort l D (tyL g) (wM g a M1) x2 r4 e_4) ok_X12_isSort wd_819 hP ⟨rfl, rfl, Nat.le_of_ble_eq_true rfl, Nat.le_of_ble_eq_true rfl⟩ rfl hl.1 rfl (Nat.le_of_ble_eq_true rfl) dX12_square_15 ⟨Nat.le_of_ble_eq_true rfl, Nat.le_of_ble_eq_true rfl⟩) ?_
    refine lv_if_ne (tgt := 24) hx hb dX12_square_18 (by decide) (fun c_5 => ?_) (fun c_5 => ?_)
    · have hf := ifn c_5 hf
      refine lv_aload_n hx hb dX12_square_24 rfl (lv_at hl 0 rfl) ?_
      refine lv_iload_n hx hb dX12_square_25 rfl (lv_at hl 1 rfl) ?_
      refine lv_iload_n hx hb dX12_square_26 rfl (lv_at hl 2 rfl) ?_
      refine lv_iload_n hx hb dX12_square_27 rfl (lv_at hl 3 rfl) ?_
      refine lv_iload hx hb dX12_square_28 (lv_at hl 4 rfl) ?_
      obtain ⟨r6, e_6, hf⟩ := bns hf
      refine kR (rV (rest := []) C (c_X12_against l D g a M1 x1 x2 x3 x4 r6 e_6) ok_X12_against wd_822 hP 0 (aM_0 g a M1) rfl ⟨rfl, rfl, Nat.le_of_ble_eq_true rfl, Nat.le_of_ble_eq_true rfl⟩ rfl hl.1 rfl (Nat.le_of_ble_eq_true rfl) dX12_square_30 ⟨Nat.le_of_ble_eq_true rfl, Nat.le_of_ble_eq_true rfl⟩) ?_
      refine lv_istore (lv' := [(5, .int r6), (0, .ref (a 0)), (1, .int x1), (2, .int x2), (3, .int x3), (4, .int x4)]) hx hb dX12_square_33 hl (by decide) rfl (fun ls hl => ?_)
      refine lv_iload hx hb dX12_square_35 (lv_at hl 0 rfl) ?_
      refine lv_if_eq (tgt := 47) hx hb dX12_square_37 (by decide) (fun c_7 => ?_) (fun c_7 => ?_)
      · have hf := ifp c_7 hf
        refine lv_bipush (v := 80) hx hb dX12_square_47 (by decide) ?_
        refine lv_iload_n hx hb dX12_square_49 rfl (lv_at hl 2 rfl) ?_
        refine lv_imul hx hb dX12_square_50 ?_
        refine lv_iload_n hx hb dX12_square_51 rfl (lv_at hl 4 rfl) ?_
        refine lv_iadd hx hb dX12_square_52 ?_
        refine lv_topi (fun z8 ez8 => ?_)
        have hf := nmr ez8 hf
        refine lv_istore (lv' := [(6, .int z8), (5, .int r6), (0, .ref (a 0)), (1, .int x1), (2, .int x2), (3, .int x3), (4, .int x4)]) hx hb dX12_square_53 hl (by decide) rfl (fun ls hl => ?_)
        refine lv_aload_n hx hb dX12_square_55 rfl (lv_at hl 2 rfl) ?_
        refine lv_iload hx hb dX12_square_56 (lv_at hl 0 rfl) ?_
        refine fp_X12_82 C hP (wM_D hJ) hS dX12_square_58 (fun H locs hP hS => ?_)
        obtain ⟨M9, eM9, hf⟩ := nms hf
        have hP : va_P D clL (wM g a M9) H := by rw [eM9]; exact hP
        refine lv_aload_n hx hb dX12_square_61 rfl (lv_at hl 2 rfl) ?_
        refine lv_iload hx hb dX12_square_62 (lv_at hl 0 rfl) ?_
        refine lv_iload hx hb dX12_square_64 (lv_at hl 6 rfl) ?_
        refine lv_iadd hx hb dX12_square_66 ?_
        obtain ⟨q10, e_10, hf⟩ := bns hf
        refine kW (rV (rest := []) C (c_X12_readSquare l D g a hJ N M9 (z8 + x4) q10.1 q10.2 e_10) ok_X12_readSquare wd_830 hP 0 (aM_0 g a M9) rfl ⟨rfl, rfl, Nat.le_of_ble_eq_true rfl, Nat.le_of_ble_eq_true rfl⟩ rfl hl.1 rfl (Nat.le_of_ble_eq_true rfl) dX12_square_67 ⟨Nat.le_of_ble_eq_true rfl, Nat.le_of_ble_eq_true rfl⟩) hS (fun H locs hP hS => ?_)
        refine lv_if_ne (tgt := 84) hx hb dX12_square_70 (by decide) (fun c_11 => ?_) (fun c_11 => ?_)
        · have hf := ifn c_11 hf
          refine lv_aload_n hx hb dX12_square_84 rfl (lv_at hl 2 rfl) ?_
          refine lv_aload_n hx hb dX12_square_85 rfl (lv_at hl 2 rfl) ?_
          refine fg_X12_103 C hP dX12_square_86 ?_
          refine fp_X12_72 C hP (wM_D hJ) hS dX12_square_89 (fun H locs hP hS => ?_)
          obtain ⟨M12, eM12, hf⟩ := nms hf
          have hP : va_P D clL (wM g a M12) H := by rw [eM12]; exact hP
          refine lv_aload_n hx hb dX12_square_92 rfl (lv_at hl 2 rfl) ?_
          refine lv_aload_n hx hb dX12_square_93 rfl (lv_at hl 2 rfl) ?_
          refine fg_X12_106 C hP dX12_square_94 ?_
          refine fp_X12_75 C hP (wM_D hJ) hS dX12_square_97 (fun H locs hP hS => ?_)
          obtain ⟨M13, eM13, hf⟩ := nms hf
          have hP : va_P D clL (wM g a M13) H := by rw [eM13]; exact hP
          refine lv_iconst (v := 0) hx hb dX12_square_100 (by decide) ?_
          refine lv_istore (lv' := [(7, .int 0), (6, .int z8), (5, .int r6), (0, .ref (a 0)), (1, .int x1), (2, .int x2), (3, .int x3), (4, .int x4)]) hx hb dX12_square_101 hl (by decide) rfl (fun ls hl => ?_)
          exact w_X12_square_l103 C hJ N r M' N M13 0 H locs hP hS ls (lv_sub hl [3, 0] rfl) hf
        · have hf := ifp c_11 hf
          refine lv_bipush (v := (-100)) hx hb dX12_square_73 (by decide) ?_
          refine lv_aload_n hx hb dX12_square_75 rfl (lv_at hl 2 rfl) ?_
          refine fg_X12_82 C hP dX12_square_76 ?_
          refine lv_iload hx hb dX12_square_79 (lv_at hl 0 rfl) ?_
          refine lv_isub hx hb dX12_square_81 ?_
          refine lv_isub hx hb dX12_square_82 ?_
          obtain ⟨rfl, rfl⟩ := Prod.mk.inj (Option.some.inj hf)
          exact retW C hP hS dX12_square_83
      · have hf := ifn c_7 hf
        refine lv_aload_n hx hb dX12_square_40 rfl (lv_at hl 1 rfl) ?_
        refine lv_iload hx hb dX12_square_41 (lv_at hl 0 rfl) ?_
        obtain ⟨q26, e_26, hf⟩ := bns hf
        refine kW (rV (rest := []) C (c_X12_fails l D g a hJ M1 r6 q26.1 q26.2 e_26) ok_X12_fails wd_826 hP 0 (aM_0 g a M1) rfl ⟨rfl, rfl, Nat.le_of_ble_eq_true rfl, Nat.le_of_ble_eq_true rfl⟩ rfl hl.1 rfl (Nat.le_of_ble_eq_true rfl) dX12_square_43 ⟨Nat.le_of_ble_eq_true rfl, Nat.le_of_ble_eq_true rfl⟩) hS (fun H locs hP hS => ?_)
        obtain ⟨rfl, rfl⟩ := Prod.mk.inj (Option.some.inj hf)
        exact retW C hP hS dX12_square_46
    · have hf := ifp c_5 hf
      refine lv_bipush (v := (-2)) hx hb dX12_square_21 (by decide) ?_
      obtain ⟨rfl, rfl⟩ := Prod.mk.inj (Option.some.inj hf)
      exact retW C hP hS dX12_square_23
  · have hf := ifp c_3 hf
    refine lv_iconst (v := (-1)) hx hb dX12_square_12 (by decide) ?_
    obtain ⟨rfl, rfl⟩ := Prod.mk.inj (Option.some.inj hf)
    exact retW C hP hS dX12_square_13
set_option maxHeartbeats 4000000 in
set_option maxRecDepth 100000 in
theorem c_X12_ofStone (l : Launch) (D : va_G) (g : Nat → ClassId) (a : Nat → Nat) (M : Mem) (x1 : Int32) (x2 : Int32) (r : Int32) (hf : f_X12_ofStone M x1 x2 = some r) : Met l yX12_ofStone (cW yX12_ofStone cX12_ofStone 3 (some .int)) (rmv 2 41) (Pw D (tyL g) (wM g a M) [.ref (a 0), .int x1, .int x2]) (RdQ (.int r)) 0 0 nof := by
  unfold f_X12_ofStone at hf
  refine met_in (by decide) (Nat.le_of_ble_eq_true rfl) ?_
  intro p e s m args below meth c ls C hP hl
  have C : Cx p s m args meth c cX12_ofStone 3 (some .int) RX12 D (tyL g) := C
  obtain ⟨hx, hb, hr, hml, hown, ht, hlocks, hK, hN⟩ := id C
  have hl : lv_has ls 3 [(0, .ref (a 0)), (1, .int x1), (2, .int x2)] := hl
  refine lv_aload_n hx hb dX12_ofStone_0 rfl (lv_at hl 0 rfl) ?_
  refine lv_iload_n hx hb dX12_ofStone_1 rfl (lv_at hl 1 rfl) ?_
  obtain ⟨r1, e_1, hf⟩ := bns hf
  refine kR (rV (rest := []) C (c_X12_isStone l D g a M x1 r1 e_1) ok_X12_isStone wd_850 hP 0 (aM_0 g a M) rfl ⟨rfl, rfl, Nat.le_of_ble_eq_true rfl, Nat.le_of_ble_eq_true rfl⟩ rfl hl.1 rfl (Nat.le_of_ble_eq_true rfl) dX12_ofStone_2 ⟨Nat.le_of_ble_eq_true rfl, Nat.le_of_ble_eq_true rfl⟩) ?_
  refine lv_if_ne (tgt := 10) hx hb dX12_ofStone_5 (by decide) (fun c_2 => ?_) (fun c_2 => ?_)
  · have hf := ifn c_2 hf
    refine lv_iload_n hx hb dX12_ofStone_10 rfl (lv_at hl 2 rfl) ?_
    refine lv_if_ne (tgt := 23) hx hb dX12_ofStone_11 (by decide) (fun c_3 => ?_) (fun c_3 => ?_)
    · have hf := ifn c_3 hf
      refine lv_iload_n hx hb dX12_ofStone_23 rfl (lv_at hl 2 rfl) ?_
      refine lv_iconst (v := 1) hx hb dX12_ofStone_24 (by decide) ?_
      refine lv_icmp_ne (tgt := 37) hx hb dX12_ofStone_25 (by decide) (fun c_4 => ?_) (fun c_4 => ?_)
      · have hf := ifn c_4 hf
        refine lv_iload_n hx hb dX12_ofStone_37 rfl (lv_at hl 2 rfl) ?_
        refine lv_iconst (v := 2) hx hb dX12_ofStone_38 (by decide) ?_
        refine lv_icmp_ne (tgt := 51) hx hb dX12_ofStone_39 (by decide) (fun c_5 => ?_) (fun c_5 => ?_)
        · have hf := ifn c_5 hf
          refine lv_bipush (v := (-2)) hx hb dX12_ofStone_51 (by decide) ?_
          obtain rfl := Option.some.inj hf
          exact retR C dX12_ofStone_53
        · have hf := ifp c_5 hf
          refine lv_aload_n hx hb dX12_ofStone_42 rfl (lv_at hl 0 rfl) ?_
          refine fg_X12_25 C hP dX12_ofStone_43 ?_
          refine lv_iload_n hx hb dX12_ofStone_46 rfl (lv_at hl 1 rfl) ?_
          obtain ⟨h_6, hf⟩ := ifs hf
          refine va_iald hx hb hK hP 6 0 (aM_6 g a M) rfl h_6 dX12_ofStone_47 ?_
          refine lv_goto (tgt := 53) hx hb dX12_ofStone_48 (by decide) ?_
          obtain rfl := Option.some.inj hf
          exact retR C dX12_ofStone_53
      · have hf := ifp c_4 hf
        refine lv_aload_n hx hb dX12_ofStone_28 rfl (lv_at hl 0 rfl) ?_
        refine fg_X12_22 C hP dX12_ofStone_29 ?_
        refine lv_iload_n hx hb dX12_ofStone_32 rfl (lv_at hl 1 rfl) ?_
        obtain ⟨h_7, hf⟩ := ifs hf
        refine va_iald hx hb hK hP 5 0 (aM_5 g a M) rfl h_7 dX12_ofStone_33 ?_
        refine lv_goto (tgt := 53) hx hb dX12_ofStone_34 (by decide) ?_
        obtain rfl := Option.some.inj hf
        exact retR C dX12_ofStone_53
    · have hf := ifp c_3 hf
      refine lv_aload_n hx hb dX12_ofStone_14 rfl (lv_at hl 0 rfl) ?_
      refine fg_X12_19 C hP dX12_ofStone_15 ?_
      refine lv_iload_n hx hb dX12_ofStone_18 rfl (lv_at hl 1 rfl) ?_
      obtain ⟨h_8, hf⟩ := ifs hf
      refine va_iald hx hb hK hP 4 0 (aM_4 g a M) rfl h_8 dX12_ofStone_19 ?_
      refine lv_goto (tgt := 53) hx hb dX12_ofStone_20 (by decide) ?_
      obtain rfl := Option.some.inj hf
      exact retR C dX12_ofStone_53
  · have hf := ifp c_2 hf
    refine lv_iconst (v := (-1)) hx hb dX12_ofStone_8 (by decide) ?_
    obtain rfl := Option.some.inj hf
    exact retR C dX12_ofStone_9
set_option maxHeartbeats 4000000 in
set_option maxRecDepth 100000 in
theorem c_X12_month (l : Launch) (D : va_G) (g : Nat → ClassId) (a : Nat → Nat) (hJ : Inj a 18) (M : Mem) (x1 : Int32) (x2 : Int32) (x3 : Int32) (r : Int32) (M' : Mem) (hf : f_X12_month M x1 x2 x3 = some (r, M')) : Met l yX12_month (cW yX12_month cX12_month 5 (some .int)) (rmv 2 42) (Pw D (tyL g) (wM g a M) [.ref (a 0), .int x1, .int x2, .int x3]) (WrQ D (wM g a M') (inA a 18) (.int r)) 0 0 (inA a 18) := by
  unfold f_X12_month at hf
  refine met_inW (A := (inA a 18)) (by decide) (Nat.le_of_ble_eq_true rfl) ?_
  intro p e s m args below meth c ls H locs C hP hS hl
  have C : Cx p s m args meth c cX12_month 5 (some .int) RX12 D (tyL g) := C
  obtain ⟨hx, hb, hr, hml, hown, ht, hlocks, hK, hN⟩ := id C
  have hl : lv_has ls 5 [(0, .ref (a 0)), (1, .int x1), (2, .int x2), (3, .int x3)] := hl
  refine lv_iload_n hx hb dX12_month_0 rfl (lv_at hl 1 rfl) ?_
  obtain ⟨r1, e_1, hf⟩ := bns hf
  refine kR (rS (rest := []) C (c_X12_isMonth l D (tyL g) (wM g a M) x1 r1 e_1) ok_X12_isMonth wd_858 hP ⟨rfl, rfl, Nat.le_of_ble_eq_true rfl, Nat.le_of_ble_eq_true rfl⟩ rfl hl.1 rfl (Nat.le_of_ble_eq_true rfl) dX12_month_1 ⟨Nat.le_of_ble_eq_true rfl, Nat.le_of_ble_eq_true rfl⟩) ?_
  refine lv_if_ne (tgt := 9) hx hb dX12_month_4 (by decide) (fun c_2 => ?_) (fun c_2 => ?_)
  · have hf := ifn c_2 hf
    refine lv_iload_n hx hb dX12_month_9 rfl (lv_at hl 2 rfl) ?_
    refine lv_iconst (v := 0) hx hb dX12_month_10 (by decide) ?_
    refine lv_bipush (v := 9) hx hb dX12_month_11 (by decide) ?_
    obtain ⟨r3, e_3, hf⟩ := bns hf
    refine kR (rS (rest := []) C (c_X12_within l D (tyL g) (wM g a M) x2 0 9 r3 e_3) ok_X12_within wd_816 hP ⟨rfl, rfl, Nat.le_of_ble_eq_true rfl, Nat.le_of_ble_eq_true rfl⟩ rfl hl.1 rfl (Nat.le_of_ble_eq_true rfl) dX12_month_13 ⟨Nat.le_of_ble_eq_true rfl, Nat.le_of_ble_eq_true rfl⟩) ?_
    refine lv_if_eq (tgt := 29) hx hb dX12_month_16 (by decide) (fun c_4 => ?_) (fun c_4 => ?_)
    · have hf := ifp c_4 hf
      refine lv_bipush (v := (-2)) hx hb dX12_month_29 (by decide) ?_
      obtain ⟨rfl, rfl⟩ := Prod.mk.inj (Option.some.inj hf)
      exact retW C hP hS dX12_month_31
    · have hf := ifn c_4 hf
      refine lv_iload_n hx hb dX12_month_19 rfl (lv_at hl 3 rfl) ?_
      refine lv_iconst (v := 0) hx hb dX12_month_20 (by decide) ?_
      refine lv_bipush (v := 9) hx hb dX12_month_21 (by decide) ?_
      obtain ⟨r5, e_5, hf⟩ := bns hf
      refine kR (rS (rest := []) C (c_X12_within l D (tyL g) (wM g a M) x3 0 9 r5 e_5) ok_X12_within wd_816 hP ⟨rfl, rfl, Nat.le_of_ble_eq_true rfl, Nat.le_of_ble_eq_true rfl⟩ rfl hl.1 rfl (Nat.le_of_ble_eq_true rfl) dX12_month_23 ⟨Nat.le_of_ble_eq_true rfl, Nat.le_of_ble_eq_true rfl⟩) ?_
      refine lv_if_ne (tgt := 32) hx hb dX12_month_26 (by decide) (fun c_6 => ?_) (fun c_6 => ?_)
      · have hf := ifn c_6 hf
        refine lv_aload_n hx hb dX12_month_32 rfl (lv_at hl 0 rfl) ?_
        obtain ⟨r7, e_7, hf⟩ := bns hf
        refine kR (rV (rest := []) C (c_X12_all l D g a M r7 e_7) ok_X12_all wd_842 hP 0 (aM_0 g a M) rfl ⟨rfl, rfl, Nat.le_of_ble_eq_true rfl, Nat.le_of_ble_eq_true rfl⟩ rfl hl.1 rfl (Nat.le_of_ble_eq_true rfl) dX12_month_33 ⟨Nat.le_of_ble_eq_true rfl, Nat.le_of_ble_eq_true rfl⟩) ?_
        refine lv_if_ne (tgt := 42) hx hb dX12_month_36 (by decide) (fun c_8 => ?_) (fun c_8 => ?_)
        · have hf := ifn c_8 hf
          refine lv_bipush (v := 10) hx hb dX12_month_42 (by decide) ?_
          refine lv_aload_n hx hb dX12_month_44 rfl (lv_at hl 0 rfl) ?_
          refine fg_X12_28 C hP dX12_month_45 ?_
          refine lv_iload_n hx hb dX12_month_48 rfl (lv_at hl 1 rfl) ?_
          obtain ⟨h_9, hf⟩ := ifs hf
          refine va_iald hx hb hK hP 7 0 (aM_7 g a M) rfl h_9 dX12_month_49 ?_
          refine lv_imul hx hb dX12_month_50 ?_
          refine lv_aload_n hx hb dX12_month_51 rfl (lv_at hl 0 rfl) ?_
          refine fg_X12_31 C hP dX12_month_52 ?_
          refine lv_iload_n hx hb dX12_month_55 rfl (lv_at hl 1 rfl) ?_
          refine va_iald hx hb hK hP 8 0 (aM_8 g a M) rfl h_9 dX12_month_56 ?_
          refine lv_iadd hx hb dX12_month_57 ?_
          refine lv_topi (fun z10 ez10 => ?_)
          have hf := nmr ez10 hf
          refine lv_istore (lv' := [(4, .int z10), (0, .ref (a 0)), (1, .int x1), (2, .int x2), (3, .int x3)]) hx hb dX12_month_58 hl (by decide) rfl (fun ls hl => ?_)
          refine lv_aload_n hx hb dX12_month_60 rfl (lv_at hl 1 rfl) ?_
          refine fg_X12_28 C hP dX12_month_61 ?_
          refine lv_iload_n hx hb dX12_month_64 rfl (lv_at hl 2 rfl) ?_
          refine lv_iload_n hx hb dX12_month_65 rfl (lv_at hl 3 rfl) ?_
          refine ast (wM g a) C hP (wM_D hJ) hS 7 0 (aM_7 g a M) rfl (sM_7 g a M) h_9 dX12_month_66 (fun H locs hP hS => ?_)
          obtain ⟨M11, eM11, hf⟩ := nms hf
          have hP : va_P D clL (wM g a M11) H := by rw [eM11]; exact hP
          refine lv_aload_n hx hb dX12_month_67 rfl (lv_at hl 1 rfl) ?_
          refine fg_X12_31 C hP dX12_month_68 ?_
          refine lv_iload_n hx hb dX12_month_71 rfl (lv_at hl 2 rfl) ?_
          refine lv_iload_n hx hb dX12_month_72 rfl (lv_at hl 4 rfl) ?_
          refine ast (wM g a) C hP (wM_D hJ) hS 8 0 (aM_8 g a M11) rfl (sM_8 g a M11) h_9 dX12_month_73 (fun H locs hP hS => ?_)
          obtain ⟨M12, eM12, hf⟩ := nms hf
          have hP : va_P D clL (wM g a M12) H := by rw [eM12]; exact hP
          refine lv_iload hx hb dX12_month_74 (lv_at hl 0 rfl) ?_
          obtain ⟨rfl, rfl⟩ := Prod.mk.inj (Option.some.inj hf)
          exact retW C hP hS dX12_month_76
        · have hf := ifp c_8 hf
          refine lv_bipush (v := (-3)) hx hb dX12_month_39 (by decide) ?_
          obtain ⟨rfl, rfl⟩ := Prod.mk.inj (Option.some.inj hf)
          exact retW C hP hS dX12_month_41
      · have hf := ifp c_6 hf
        refine lv_bipush (v := (-2)) hx hb dX12_month_29 (by decide) ?_
        obtain ⟨rfl, rfl⟩ := Prod.mk.inj (Option.some.inj hf)
        exact retW C hP hS dX12_month_31
  · have hf := ifp c_2 hf
    refine lv_iconst (v := (-1)) hx hb dX12_month_7 (by decide) ?_
    obtain ⟨rfl, rfl⟩ := Prod.mk.inj (Option.some.inj hf)
    exact retW C hP hS dX12_month_8
set_option maxHeartbeats 4000000 in
set_option maxRecDepth 100000 in
theorem c_X12_lift (l : Launch) (D : va_G) (g : Nat → ClassId) (a : Nat → Nat) (hJ : Inj a 18) (M : Mem) (x1 : Int32) (x2 : Int32) (r : Int32) (M' : Mem) (hf : f_X12_lift M x1 x2 = some (r, M')) : Met l yX12_lift (cW yX12_lift cX12_lift 4 (some .int)) (rmv 2 41) (Pw D (tyL g) (wM g a M) [.ref (a 0), .int x1, .int x2]) (WrQ D (wM g a M') (inA a 18) (.int r)) 0 0 (inA a 18) := by
  unfold f_X12_lift at hf
  refine met_inW (A := (inA a 18)) (by decide) (Nat.le_of_ble_eq_true rfl) ?_
  intro p e s m args below meth c ls H locs C hP hS hl
  have C : Cx p s m args meth c cX12_lift 4 (some .int) RX12 D (tyL g) := C
  obtain ⟨hx, hb, hr, hml, hown, ht, hlocks, hK, hN⟩ := id C
  have hl : lv_has ls 4 [(0, .ref (a 0)), (1, .int x1), (2, .int x2)] := hl
  refine lv_aload_n hx hb dX12_lift_0 rfl (lv_at hl 0 rfl) ?_
  refine lv_iload_n hx hb dX12_lift_1 rfl (lv_at hl 1 rfl) ?_
  obtain ⟨r1, e_1, hf⟩ := bns hf
  refine kR (rV (rest := []) C (c_X12_isStone l D g a M x1 r1 e_1) ok_X12_isStone wd_850 hP 0 (aM_0 g a M) rfl ⟨rfl, rfl, Nat.le_of_ble_eq_true rfl, Nat.le_of_ble_eq_true rfl⟩ rfl hl.1 rfl (Nat.le_of_ble_eq_true rfl) dX12_lift_2 ⟨Nat.le_of_ble_eq_true rfl, Nat.le_of_ble_eq_true rfl⟩) ?_
  refine lv_if_ne (tgt := 10) hx hb dX12_lift_5 (by decide) (fun c_2 => ?_) (fun c_2 => ?_)
  · have hf := ifn c_2 hf
    refine lv_iload_n hx hb dX12_lift_10 rfl (lv_at hl 2 rfl) ?_
    refine lv_iconst (v := 0) hx hb dX12_lift_11 (by decide) ?_
    refine lv_bipush (v := 99) hx hb dX12_lift_12 (by decide) ?_
    obtain ⟨r3, e_3, hf⟩ := bns hf
    refine kR (rS (rest := []) C (c_X12_within l D (tyL g) (wM g a M) x2 0 99 r3 e_3) ok_X12_within wd_816 hP ⟨rfl, rfl, Nat.le_of_ble_eq_true rfl, Nat.le_of_ble_eq_true rfl⟩ rfl hl.1 rfl (Nat.le_of_ble_eq_true rfl) dX12_lift_14 ⟨Nat.le_of_ble_eq_true rfl, Nat.le_of_ble_eq_true rfl⟩) ?_
    refine lv_if_ne (tgt := 23) hx hb dX12_lift_17 (by decide) (fun c_4 => ?_) (fun c_4 => ?_)
    · have hf := ifn c_4 hf
      refine lv_aload_n hx hb dX12_lift_23 rfl (lv_at hl 0 rfl) ?_
      refine fg_X12_25 C hP dX12_lift_24 ?_
      refine lv_iload_n hx hb dX12_lift_27 rfl (lv_at hl 1 rfl) ?_
      obtain ⟨h_5, hf⟩ := ifs hf
      refine va_iald hx hb hK hP 6 0 (aM_6 g a M) rfl h_5 dX12_lift_28 ?_
      refine lv_topi (fun z6 ez6 => ?_)
      have hf := nmr ez6 hf
      refine lv_istore_n (lv' := [(3, .int z6), (0, .ref (a 0)), (1, .int x1), (2, .int x2)]) hx hb dX12_lift_29 rfl hl (by decide) rfl (fun ls hl => ?_)
      refine lv_aload_n hx hb dX12_lift_30 rfl (lv_at hl 1 rfl) ?_
      refine fg_X12_25 C hP dX12_lift_31 ?_
      refine lv_iload_n hx hb dX12_lift_34 rfl (lv_at hl 2 rfl) ?_
      refine lv_iload_n hx hb dX12_lift_35 rfl (lv_at hl 3 rfl) ?_
      refine ast (wM g a) C hP (wM_D hJ) hS 6 0 (aM_6 g a M) rfl (sM_6 g a M) h_5 dX12_lift_36 (fun H locs hP hS => ?_)
      obtain ⟨M7, eM7, hf⟩ := nms hf
      have hP : va_P D clL (wM g a M7) H := by rw [eM7]; exact hP
      refine lv_iload_n hx hb dX12_lift_37 rfl (lv_at hl 0 rfl) ?_
      obtain ⟨rfl, rfl⟩ := Prod.mk.inj (Option.some.inj hf)
      exact retW C hP hS dX12_lift_38
    · have hf := ifp c_4 hf
      refine lv_bipush (v := (-2)) hx hb dX12_lift_20 (by decide) ?_
      obtain ⟨rfl, rfl⟩ := Prod.mk.inj (Option.some.inj hf)
      exact retW C hP hS dX12_lift_22
  · have hf := ifp c_2 hf
    refine lv_iconst (v := (-1)) hx hb dX12_lift_8 (by decide) ?_
    obtain ⟨rfl, rfl⟩ := Prod.mk.inj (Option.some.inj hf)
    exact retW C hP hS dX12_lift_9
set_option maxHeartbeats 4000000 in
set_option maxRecDepth 100000 in
theorem c_X12_heightAs (l : Launch) (D : va_G) (g : Nat → ClassId) (a : Nat → Nat) (M : Mem) (x1 : Int32) (x2 : Int32) (x3 : Int32) (r : Int32) (hf : f_X12_heightAs M x1 x2 x3 = some r) : Met l yX12_heightAs (cW yX12_heightAs cX12_heightAs 5 (some .int)) (rmv 0 0) (Pw D (tyL g) (wM g a M) [.ref (a 0), .int x1, .int x2, .int x3]) (RdQ (.int r)) 0 0 nof := by
  unfold f_X12_heightAs at hf
  refine met_in (by decide) (Nat.le_of_ble_eq_true rfl) ?_
  intro p e s m args below meth c ls C hP hl
  have C : Cx p s m args meth c cX12_heightAs 5 (some .int) RX12 D (tyL g) := C
  obtain ⟨hx, hb, hr, hml, hown, ht, hlocks, hK, hN⟩ := id C
  have hl : lv_has ls 5 [(0, .ref (a 0)), (1, .int x1), (2, .int x2), (3, .int x3)] := hl
  refine lv_bipush (v := 10) hx hb dX12_heightAs_0 (by decide) ?_
  refine lv_aload_n hx hb dX12_heightAs_2 rfl (lv_at hl 0 rfl) ?_
  refine fg_X12_22 C hP dX12_heightAs_3 ?_
  refine lv_iload_n hx hb dX12_heightAs_6 rfl (lv_at hl 1 rfl) ?_
  obtain ⟨h_1, hf⟩ := ifs hf
  refine va_iald hx hb hK hP 5 0 (aM_5 g a M) rfl h_1 dX12_heightAs_7 ?_
  refine lv_imul hx hb dX12_heightAs_8 ?_
  refine lv_aload_n hx hb dX12_heightAs_9 rfl (lv_at hl 0 rfl) ?_
  refine fg_X12_25 C hP dX12_heightAs_10 ?_
  refine lv_iload_n hx hb dX12_heightAs_13 rfl (lv_at hl 1 rfl) ?_
  refine va_iald hx hb hK hP 6 0 (aM_6 g a M) rfl h_1 dX12_heightAs_14 ?_
  refine lv_iadd hx hb dX12_heightAs_15 ?_
  refine lv_topi (fun z2 ez2 => ?_)
  have hf := nmr ez2 hf
  refine lv_istore (lv' := [(4, .int z2), (0, .ref (a 0)), (1, .int x1), (2, .int x2), (3, .int x3)]) hx hb dX12_heightAs_16 hl (by decide) rfl (fun ls hl => ?_)
  refine lv_iload hx hb dX12_heightAs_18 (lv_at hl 0 rfl) ?_
  refine lv_iload_n hx hb dX12_heightAs_20 rfl (lv_at hl 3 rfl) ?_
  refine lv_if_le (tgt := 35) hx hb dX12_heightAs_21 (by decide) (fun c_3 => ?_) (fun c_3 => ?_)
  · have hf := ifp c_3 hf
    refine lv_iconst (v := 0) hx hb dX12_heightAs_35 (by decide) ?_
    refine lv_iadd hx hb dX12_heightAs_36 ?_
    refine lv_topi (fun z4 ez4 => ?_)
    have hf := nmr ez4 hf
    refine lv_istore (lv' := [(4, .int z4), (0, .ref (a 0)), (1, .int x1), (2, .int x2), (3, .int x3)]) hx hb dX12_heightAs_37 hl (by decide) rfl (fun ls hl => ?_)
    refine lv_iload_n hx hb dX12_heightAs_39 rfl (lv_at hl 3 rfl) ?_
    refine lv_iconst (v := 2) hx hb dX12_heightAs_40 (by decide) ?_
    refine lv_icmp_ne (tgt := 58) hx hb dX12_heightAs_41 (by decide) (fun c_5 => ?_) (fun c_5 => ?_)
    · have hf := ifn c_5 hf
      refine lv_iload hx hb dX12_heightAs_58 (lv_at hl 0 rfl) ?_
      obtain rfl := Option.some.inj hf
      exact retR C dX12_heightAs_60
    · have hf := ifp c_5 hf
      refine lv_iload hx hb dX12_heightAs_44 (lv_at hl 0 rfl) ?_
      refine lv_iconst (v := 2) hx hb dX12_heightAs_46 (by decide) ?_
      refine lv_aload_n hx hb dX12_heightAs_47 rfl (lv_at hl 1 rfl) ?_
      refine fg_X12_31 C hP dX12_heightAs_48 ?_
      refine lv_iload_n hx hb dX12_heightAs_51 rfl (lv_at hl 4 rfl) ?_
      obtain ⟨h_6, hf⟩ := ifs hf
      refine va_iald hx hb hK hP 8 0 (aM_8 g a M) rfl h_6 dX12_heightAs_52 ?_
      refine lv_imul hx hb dX12_heightAs_53 ?_
      refine lv_iadd hx hb dX12_heightAs_54 ?_
      refine lv_goto (tgt := 60) hx hb dX12_heightAs_55 (by decide) ?_
      obtain rfl := Option.some.inj hf
      exact retR C dX12_heightAs_60
  · have hf := ifn c_3 hf
    refine lv_iconst (v := 3) hx hb dX12_heightAs_24 (by decide) ?_
    refine lv_aload_n hx hb dX12_heightAs_25 rfl (lv_at hl 1 rfl) ?_
    refine fg_X12_28 C hP dX12_heightAs_26 ?_
    refine lv_iload_n hx hb dX12_heightAs_29 rfl (lv_at hl 4 rfl) ?_
    obtain ⟨h_7, hf⟩ := ifs hf
    refine va_iald hx hb hK hP 7 0 (aM_7 g a M) rfl h_7 dX12_heightAs_30 ?_
    refine lv_imul hx hb dX12_heightAs_31 ?_
    refine lv_goto (tgt := 36) hx hb dX12_heightAs_32 (by decide) ?_
    refine lv_iadd hx hb dX12_heightAs_36 ?_
    refine lv_topi (fun z8 ez8 => ?_)
    have hf := nmr ez8 hf
    refine lv_istore (lv' := [(4, .int z8), (0, .ref (a 0)), (1, .int x1), (2, .int x2), (3, .int x3)]) hx hb dX12_heightAs_37 hl (by decide) rfl (fun ls hl => ?_)
    refine lv_iload_n hx hb dX12_heightAs_39 rfl (lv_at hl 3 rfl) ?_
    refine lv_iconst (v := 2) hx hb dX12_heightAs_40 (by decide) ?_
    refine lv_icmp_ne (tgt := 58) hx hb dX12_heightAs_41 (by decide) (fun c_9 => ?_) (fun c_9 => ?_)
    · have hf := ifn c_9 hf
      refine lv_iload hx hb dX12_heightAs_58 (lv_at hl 0 rfl) ?_
      obtain rfl := Option.some.inj hf
      exact retR C dX12_heightAs_60
    · have hf := ifp c_9 hf
      refine lv_iload hx hb dX12_heightAs_44 (lv_at hl 0 rfl) ?_
      refine lv_iconst (v := 2) hx hb dX12_heightAs_46 (by decide) ?_
      refine lv_aload_n hx hb dX12_heightAs_47 rfl (lv_at hl 1 rfl) ?_
      refine fg_X12_31 C hP dX12_heightAs_48 ?_
      refine lv_iload_n hx hb dX12_heightAs_51 rfl (lv_at hl 4 rfl) ?_
      refine va_iald hx hb hK hP 8 0 (aM_8 g a M) rfl h_7 dX12_heightAs_52 ?_
      refine lv_imul hx hb dX12_heightAs_53 ?_
      refine lv_iadd hx hb dX12_heightAs_54 ?_
      refine lv_goto (tgt := 60) hx hb dX12_heightAs_55 (by decide) ?_
      obtain rfl := Option.some.inj hf
      exact retR C dX12_heightAs_60
set_option maxHeartbeats 4000000 in
set_option maxRecDepth 100000 in
theorem c_X12_heightOf (l : Launch) (D : va_G) (g : Nat → ClassId) (a : Nat → Nat) (M : Mem) (x1 : Int32) (x2 : Int32) (r : Int32) (hf : f_X12_heightOf M x1 x2 = some r) : Met l yX12_heightOf (cW yX12_heightOf cX12_heightOf 3 (some .int)) (rmv 1 24) (Pw D (tyL g) (wM g a M) [.ref (a 0), .int x1, .int x2]) (RdQ (.int r)) 0 0 nof := by
  unfold f_X12_heightOf at hf
  refine met_in (by decide) (Nat.le_of_ble_eq_true rfl) ?_
  intro p e s m args below meth c ls C hP hl
  have C : Cx p s m args meth c cX12_heightOf 3 (some .int) RX12 D (tyL g) := C
  obtain ⟨hx, hb, hr, hml, hown, ht, hlocks, hK, hN⟩ := id C
  have hl : lv_has ls 3 [(0, .ref (a 0)), (1, .int x1), (2, .int x2)] := hl
  refine lv_aload_n hx hb dX12_heightOf_0 rfl (lv_at hl 0 rfl) ?_
  refine lv_iload_n hx hb dX12_heightOf_1 rfl (lv_at hl 1 rfl) ?_
  refine lv_aload_n hx hb dX12_heightOf_2 rfl (lv_at hl 0 rfl) ?_
  refine fg_X12_19 C hP dX12_heightOf_3 ?_
  refine lv_iload_n hx hb dX12_heightOf_6 rfl (lv_at hl 1 rfl) ?_
  obtain ⟨h_1, hf⟩ := ifs hf
  refine va_iald hx hb hK hP 4 0 (aM_4 g a M) rfl h_1 dX12_heightOf_7 ?_
  refine lv_iload_n hx hb dX12_heightOf_8 rfl (lv_at hl 2 rfl) ?_
  obtain ⟨r2, e_2, hf⟩ := bns hf
  refine kR (rV (rest := []) C (c_X12_heightAs l D g a M x1 (M 4 x1.toNatClampNeg) x2 r2 e_2) ok_X12_heightAs wd_873 hP 0 (aM_0 g a M) rfl ⟨rfl, rfl, Nat.le_of_ble_eq_true rfl, Nat.le_of_ble_eq_true rfl⟩ rfl hl.1 rfl (Nat.le_of_ble_eq_true rfl) dX12_heightOf_9 ⟨Nat.le_of_ble_eq_true rfl, Nat.le_of_ble_eq_true rfl⟩) ?_
  obtain rfl := Option.some.inj hf
  exact retR C dX12_heightOf_12
set_option maxHeartbeats 4000000 in
set_option maxRecDepth 100000 in
theorem c_X12_height (l : Launch) (D : va_G) (g : Nat → ClassId) (a : Nat → Nat) (M : Mem) (x1 : Int32) (x2 : Int32) (r : Int32) (hf : f_X12_height M x1 x2 = some r) : Met l yX12_height (cW yX12_height cX12_height 3 (some .int)) (rmv 2 46) (Pw D (tyL g) (wM g a M) [.ref (a 0), .int x1, .int x2]) (RdQ (.int r)) 0 0 nof := by
  unfold f_X12_height at hf
  refine met_in (by decide) (Nat.le_of_ble_eq_true rfl) ?_
  intro p e s m args below meth c ls C hP hl
  have C : Cx p s m args meth c cX12_height 3 (some .int) RX12 D (tyL g) := C
  obtain ⟨hx, hb, hr, hml, hown, ht, hlocks, hK, hN⟩ := id C
  have hl : lv_has ls 3 [(0, .ref (a 0)), (1, .int x1), (2, .int x2)] := hl
  refine lv_aload_n hx hb dX12_height_0 rfl (lv_at hl 0 rfl) ?_
  refine lv_iload_n hx hb dX12_height_1 rfl (lv_at hl 1 rfl) ?_
  obtain ⟨r1, e_1, hf⟩ := bns hf
  refine kR (rV (rest := []) C (c_X12_isStone l D g a M x1 r1 e_1) ok_X12_isStone wd_850 hP 0 (aM_0 g a M) rfl ⟨rfl, rfl, Nat.le_of_ble_eq_true rfl, Nat.le_of_ble_eq_true rfl⟩ rfl hl.1 rfl (Nat.le_of_ble_eq_true rfl) dX12_height_2 ⟨Nat.le_of_ble_eq_true rfl, Nat.le_of_ble_eq_true rfl⟩) ?_
  refine lv_if_eq (tgt := 24) hx hb dX12_height_5 (by decide) (fun c_2 => ?_) (fun c_2 => ?_)
  · have hf := ifp c_2 hf
    refine lv_iconst (v := (-1)) hx hb dX12_height_24 (by decide) ?_
    obtain rfl := Option.some.inj hf
    exact retR C dX12_height_25
  · have hf := ifn c_2 hf
    refine lv_iload_n hx hb dX12_height_8 rfl (lv_at hl 2 rfl) ?_
    obtain ⟨r3, e_3, hf⟩ := bns hf
    refine kR (rS (rest := []) C (c_X12_isMonth l D (tyL g) (wM g a M) x2 r3 e_3) ok_X12_isMonth wd_858 hP ⟨rfl, rfl, Nat.le_of_ble_eq_true rfl, Nat.le_of_ble_eq_true rfl⟩ rfl hl.1 rfl (Nat.le_of_ble_eq_true rfl) dX12_height_9 ⟨Nat.le_of_ble_eq_true rfl, Nat.le_of_ble_eq_true rfl⟩) ?_
    refine lv_if_eq (tgt := 24) hx hb dX12_height_12 (by decide) (fun c_4 => ?_) (fun c_4 => ?_)
    · have hf := ifp c_4 hf
      refine lv_iconst (v := (-1)) hx hb dX12_height_24 (by decide) ?_
      obtain rfl := Option.some.inj hf
      exact retR C dX12_height_25
    · have hf := ifn c_4 hf
      refine lv_aload_n hx hb dX12_height_15 rfl (lv_at hl 0 rfl) ?_
      refine lv_iload_n hx hb dX12_height_16 rfl (lv_at hl 1 rfl) ?_
      refine lv_iload_n hx hb dX12_height_17 rfl (lv_at hl 2 rfl) ?_
      obtain ⟨r5, e_5, hf⟩ := bns hf
      refine kR (rV (rest := []) C (c_X12_heightOf l D g a M x1 x2 r5 e_5) ok_X12_heightOf wd_869 hP 0 (aM_0 g a M) rfl ⟨rfl, rfl, Nat.le_of_ble_eq_true rfl, Nat.le_of_ble_eq_true rfl⟩ rfl hl.1 rfl (Nat.le_of_ble_eq_true rfl) dX12_height_18 ⟨Nat.le_of_ble_eq_true rfl, Nat.le_of_ble_eq_true rfl⟩) ?_
      refine lv_goto (tgt := 25) hx hb dX12_height_21 (by decide) ?_
      obtain rfl := Option.some.inj hf
      exact retR C dX12_height_25
set_option maxHeartbeats 4000000 in
set_option maxRecDepth 100000 in
theorem w_X12_rises_l27 {p : Program} {l : Launch} {e : Env} {s : State} {m : MethodId} {args : Array Value} {below : List Frame} {meth : Method} {c : Code} {D : va_G} {g : Nat → ClassId} {a : Nat → Nat} (C : Cx p s m args meth c cX12_rises 6 (some .int) RX12 D (tyL g)) (N : Nat) (M : Mem) (hP : va_P D clL (wM g a M) s.heap) (x1 : Int32) (x2 : Int32) (r : Int32) :
    ∀ (n : Nat) (x3 : Int32) (x4 : Int32), ∀ (ls : Array Slot), lv_has ls 6 [(0, .ref (a 0)), (1, .int x1), (2, .int x2), (3, .int x3), (4, .int x4)] → f_X12_rises_l27 N M x1 x2 n x3 x4 = some r → W p l e (rmv 2 46) s m args below meth c s.heap [] 0 0 (MQ below (RdQ (.int r)) args s 0 0 nof) (F0 m 27 ls []) := by
  obtain ⟨hx, hb, hr, hml, hown, ht, hlocks, hK, hN⟩ := id C
  intro n
  induction n with
  | zero =>
    intro x3 x4 ls hl hf
    exact nos hf
  | succ n ih =>
    intro x3 x4 ls hl hf
    rw [f_X12_rises_l27] at hf
    refine lv_iload hx hb dX12_rises_27 (lv_at hl 4 rfl) ?_
    refine lv_bipush (v := 12) hx hb dX12_rises_29 (by decide) ?_
    refine lv_icmp_ge (tgt := 103) hx hb dX12_rises_31 (by decide) (fun c_5 => ?_) (fun c_5 => ?_)
    · have hf := ifp c_5 hf
      refine lv_iload_n hx hb dX12_rises_103 rfl (lv_at hl 3 rfl) ?_
      obtain rfl := Option.some.inj hf
      exact retR C dX12_rises_104
    · have hf := ifn c_5 hf
      refine lv_iload_n hx hb dX12_rises_34 rfl (lv_at hl 2 rfl) ?_
      refine lv_if_ne (tgt := 62) hx hb dX12_rises_35 (by decide) (fun c_6 => ?_) (fun c_6 => ?_)
      · have hf := ifn c_6 hf
        refine lv_aload_n hx hb dX12_rises_62 rfl (lv_at hl 0 rfl) ?_
        refine lv_iload_n hx hb dX12_rises_63 rfl (lv_at hl 1 rfl) ?_
        refine lv_iload hx hb dX12_rises_64 (lv_at hl 4 rfl) ?_
        obtain ⟨r7, e_7, hf⟩ := bns hf
        refine kR (rV (rest := []) C (c_X12_heightOf l D g a M x1 x4 r7 e_7) ok_X12_heightOf wd_869 hP 0 (aM_0 g a M) rfl ⟨rfl, rfl, Nat.le_of_ble_eq_true rfl, Nat.le_of_ble_eq_true rfl⟩ rfl hl.1 rfl (Nat.le_of_ble_eq_true rfl) dX12_rises_66 ⟨Nat.le_of_ble_eq_true rfl, Nat.le_of_ble_eq_true rfl⟩) ?_
        refine lv_aload_n hx hb dX12_rises_69 rfl (lv_at hl 0 rfl) ?_
        refine lv_iload_n hx hb dX12_rises_70 rfl (lv_at hl 1 rfl) ?_
        refine lv_iload_n hx hb dX12_rises_71 rfl (lv_at hl 3 rfl) ?_
        obtain ⟨r8, e_8, hf⟩ := bns hf
        refine kR (rV (rest := [.int r7]) C (c_X12_heightOf l D g a M x1 x3 r8 e_8) ok_X12_heightOf wd_869 hP 0 (aM_0 g a M) rfl ⟨rfl, rfl, Nat.le_of_ble_eq_true rfl, Nat.le_of_ble_eq_true rfl⟩ rfl hl.1 rfl (Nat.le_of_ble_eq_true rfl) dX12_rises_72 ⟨Nat.le_of_ble_eq_true rfl, Nat.le_of_ble_eq_true rfl⟩) ?_
        refine lv_icmp_ge (tgt := 82) hx hb dX12_rises_75 (by decide) (fun c_9 => ?_) (fun c_9 => ?_)
        · have hf := ifp c_9 hf
          refine lv_iconst (v := 0) hx hb dX12_rises_82 (by decide) ?_
          refine lv_istore (lv' := [(5, .int 0), (0, .ref (a 0)), (1, .int x1), (2, .int x2), (3, .int x3), (4, .int x4)]) hx hb dX12_rises_83 hl (by decide) rfl (fun ls hl => ?_)
          refine lv_iload hx hb dX12_rises_85 (lv_at hl 0 rfl) ?_
          refine lv_if_eq (tgt := 95) hx hb dX12_rises_87 (by decide) (fun _ => ?_) (fun q => absurd q (by decide))
          refine lv_iload_n hx hb dX12_rises_95 rfl (lv_at hl 4 rfl) ?_
          refine lv_istore_n (lv' := [(3, .int x3), (5, .int 0), (0, .ref (a 0)), (1, .int x1), (2, .int x2), (4, .int x4)]) hx hb dX12_rises_96 rfl hl (by decide) rfl (fun ls hl => ?_)
          refine lv_iinc (v := (x4 + 1)) (lv' := [(4, .int (x4 + 1)), (3, .int x3), (5, .int 0), (0, .ref (a 0)), (1, .int x1), (2, .int x2)]) hx hb dX12_rises_97 hl (k := 5) rfl rfl (by decide) rfl (fun ls hl => ?_)
          refine lv_goto (tgt := 27) hx hb dX12_rises_100 (by decide) ?_
          exact ih x3 (x4 + 1) ls (lv_sub hl [3, 4, 5, 1, 0] rfl) hf
        · have hf := ifn c_9 hf
          refine lv_iconst (v := 1) hx hb dX12_rises_78 (by decide) ?_
          refine lv_goto (tgt := 83) hx hb dX12_rises_79 (by decide) ?_
          refine lv_istore (lv' := [(5, .int 1), (0, .ref (a 0)), (1, .int x1), (2, .int x2), (3, .int x3), (4, .int x4)]) hx hb dX12_rises_83 hl (by decide) rfl (fun ls hl => ?_)
          refine lv_iload hx hb dX12_rises_85 (lv_at hl 0 rfl) ?_
          refine lv_if_eq (tgt := 95) hx hb dX12_rises_87 (by decide) (fun q => absurd q (by decide)) (fun _ => ?_)
          refine lv_iload hx hb dX12_rises_90 (lv_at hl 5 rfl) ?_
          refine lv_goto (tgt := 96) hx hb dX12_rises_92 (by decide) ?_
          refine lv_istore_n (lv' := [(3, .int x4), (5, .int 1), (0, .ref (a 0)), (1, .int x1), (2, .int x2), (4, .int x4)]) hx hb dX12_rises_96 rfl hl (by decide) rfl (fun ls hl => ?_)
          refine lv_iinc (v := (x4 + 1)) (lv' := [(4, .int (x4 + 1)), (3, .int x4), (5, .int 1), (0, .ref (a 0)), (1, .int x1), (2, .int x2)]) hx hb dX12_rises_97 hl (k := 5) rfl rfl (by decide) rfl (fun ls hl => ?_)
          refine lv_goto (tgt := 27) hx hb dX12_rises_100 (by decide) ?_
          exact ih x4 (x4 + 1) ls (lv_sub hl [3, 4, 5, 1, 0] rfl) hf
      · have hf := ifp c_6 hf
        refine lv_aload_n hx hb dX12_rises_38 rfl (lv_at hl 0 rfl) ?_
        refine lv_iload_n hx hb dX12_rises_39 rfl (lv_at hl 1 rfl) ?_
        refine lv_iload hx hb dX12_rises_40 (lv_at hl 4 rfl) ?_
        obtain ⟨r10, e_10, hf⟩ := bns hf
        refine kR (rV (rest := []) C (c_X12_heightOf l D g a M x1 x4 r10 e_10) ok_X12_heightOf wd_869 hP 0 (aM_0 g a M) rfl ⟨rfl, rfl, Nat.le_of_ble_eq_true rfl, Nat.le_of_ble_eq_true rfl⟩ rfl hl.1 rfl (Nat.le_of_ble_eq_true rfl) dX12_rises_42 ⟨Nat.le_of_ble_eq_true rfl, Nat.le_of_ble_eq_true rfl⟩) ?_
        refine lv_aload_n hx hb dX12_rises_45 rfl (lv_at hl 0 rfl) ?_
        refine lv_iload_n hx hb dX12_rises_46 rfl (lv_at hl 1 rfl) ?_
        refine lv_iload_n hx hb dX12_rises_47 rfl (lv_at hl 3 rfl) ?_
        obtain ⟨r11, e_11, hf⟩ := bns hf
        refine kR (rV (rest := [.int r10]) C (c_X12_heightOf l D g a M x1 x3 r11 e_11) ok_X12_heightOf wd_869 hP 0 (aM_0 g a M) rfl ⟨rfl, rfl, Nat.le_of_ble_eq_true rfl, Nat.le_of_ble_eq_true rfl⟩ rfl hl.1 rfl (Nat.le_of_ble_eq_true rfl) dX12_rises_48 ⟨Nat.le_of_ble_eq_true rfl, Nat.le_of_ble_eq_true rfl⟩) ?_
        refine lv_icmp_le (tgt := 58) hx hb dX12_rises_51 (by decide) (fun c_12 => ?_) (fun c_12 => ?_)
        · have hf := ifp c_12 hf
          refine lv_iconst (v := 0) hx hb dX12_rises_58 (by decide) ?_
          refine lv_goto (tgt := 83) hx hb dX12_rises_59 (by decide) ?_
          refine lv_istore (lv' := [(5, .int 0), (0, .ref (a 0)), (1, .int x1), (2, .int x2), (3, .int x3), (4, .int x4)]) hx hb dX12_rises_83 hl (by decide) rfl (fun ls hl => ?_)
          refine lv_iload hx hb dX12_rises_85 (lv_at hl 0 rfl) ?_
          refine lv_if_eq (tgt := 95) hx hb dX12_rises_87 (by decide) (fun _ => ?_) (fun q => absurd q (by decide))
          refine lv_iload_n hx hb dX12_rises_95 rfl (lv_at hl 4 rfl) ?_
          refine lv_istore_n (lv' := [(3, .int x3), (5, .int 0), (0, .ref (a 0)), (1, .int x1), (2, .int x2), (4, .int x4)]) hx hb dX12_rises_96 rfl hl (by decide) rfl (fun ls hl => ?_)
          refine lv_iinc (v := (x4 + 1)) (lv' := [(4, .int (x4 + 1)), (3, .int x3), (5, .int 0), (0, .ref (a 0)), (1, .int x1), (2, .int x2)]) hx hb dX12_rises_97 hl (k := 5) rfl rfl (by decide) rfl (fun ls hl => ?_)
          refine lv_goto (tgt := 27) hx hb dX12_rises_100 (by decide) ?_
          exact ih x3 (x4 + 1) ls (lv_sub hl [3, 4, 5, 1, 0] rfl) hf
        · have hf := ifn c_12 hf
          refine lv_iconst (v := 1) hx hb dX12_rises_54 (by decide) ?_
          refine lv_goto (tgt := 83) hx hb dX12_rises_55 (by decide) ?_
          refine lv_istore (lv' := [(5, .int 1), (0, .ref (a 0)), (1, .int x1), (2, .int x2), (3, .int x3), (4, .int x4)]) hx hb dX12_rises_83 hl (by decide) rfl (fun ls hl => ?_)
          refine lv_iload hx hb dX12_rises_85 (lv_at hl 0 rfl) ?_
          refine lv_if_eq (tgt := 95) hx hb dX12_rises_87 (by decide) (fun q => absurd q (by decide)) (fun _ => ?_)
          refine lv_iload hx hb dX12_rises_90 (lv_at hl 5 rfl) ?_
          refine lv_goto (tgt := 96) hx hb dX12_rises_92 (by decide) ?_
          refine lv_istore_n (lv' := [(3, .int x4), (5, .int 1), (0, .ref (a 0)), (1, .int x1), (2, .int x2), (4, .int x4)]) hx hb dX12_rises_96 rfl hl (by decide) rfl (fun ls hl => ?_)
          refine lv_iinc (v := (x4 + 1)) (lv' := [(4, .int (x4 + 1)), (3, .int x4), (5, .int 1), (0, .ref (a 0)), (1, .int x1), (2, .int x2)]) hx hb dX12_rises_97 hl (k := 5) rfl rfl (by decide) rfl (fun ls hl => ?_)
          refine lv_goto (tgt := 27) hx hb dX12_rises_100 (by decide) ?_
          exact ih x4 (x4 + 1) ls (lv_sub hl [3, 4, 5, 1, 0] rfl) hf
set_option maxHeartbeats 4000000 in
set_option maxRecDepth 100000 in
theorem c_X12_rises (l : Launch) (D : va_G) (g : Nat → ClassId) (a : Nat → Nat) (N : Nat) (M : Mem) (x1 : Int32) (x2 : Int32) (r : Int32) (hf : f_X12_rises N M x1 x2 = some r) : Met l yX12_rises (cW yX12_rises cX12_rises 6 (some .int)) (rmv 2 46) (Pw D (tyL g) (wM g a M) [.ref (a 0), .int x1, .int x2]) (RdQ (.int r)) 0 0 nof := by
  unfold f_X12_rises at hf
  refine met_in (by decide) (Nat.le_of_ble_eq_true rfl) ?_
  intro p e s m args below meth c ls C hP hl
  have C : Cx p s m args meth c cX12_rises 6 (some .int) RX12 D (tyL g) := C
  obtain ⟨hx, hb, hr, hml, hown, ht, hlocks, hK, hN⟩ := id C
  have hl : lv_has ls 6 [(0, .ref (a 0)), (1, .int x1), (2, .int x2)] := hl
  refine lv_aload_n hx hb dX12_rises_0 rfl (lv_at hl 0 rfl) ?_
  refine lv_iload_n hx hb dX12_rises_1 rfl (lv_at hl 1 rfl) ?_
  obtain ⟨r1, e_1, hf⟩ := bns hf
  refine kR (rV (rest := []) C (c_X12_isStone l D g a M x1 r1 e_1) ok_X12_isStone wd_850 hP 0 (aM_0 g a M) rfl ⟨rfl, rfl, Nat.le_of_ble_eq_true rfl, Nat.le_of_ble_eq_true rfl⟩ rfl hl.1 rfl (Nat.le_of_ble_eq_true rfl) dX12_rises_2 ⟨Nat.le_of_ble_eq_true rfl, Nat.le_of_ble_eq_true rfl⟩) ?_
  refine lv_if_ne (tgt := 10) hx hb dX12_rises_5 (by decide) (fun c_2 => ?_) (fun c_2 => ?_)
  · have hf := ifn c_2 hf
    refine lv_iload_n hx hb dX12_rises_10 rfl (lv_at hl 2 rfl) ?_
    refine lv_iconst (v := 0) hx hb dX12_rises_11 (by decide) ?_
    refine lv_iconst (v := 1) hx hb dX12_rises_12 (by decide) ?_
    obtain ⟨r3, e_3, hf⟩ := bns hf
    refine kR (rS (rest := []) C (c_X12_within l D (tyL g) (wM g a M) x2 0 1 r3 e_3) ok_X12_within wd_816 hP ⟨rfl, rfl, Nat.le_of_ble_eq_true rfl, Nat.le_of_ble_eq_true rfl⟩ rfl hl.1 rfl (Nat.le_of_ble_eq_true rfl) dX12_rises_13 ⟨Nat.le_of_ble_eq_true rfl, Nat.le_of_ble_eq_true rfl⟩) ?_
    refine lv_if_ne (tgt := 22) hx hb dX12_rises_16 (by decide) (fun c_4 => ?_) (fun c_4 => ?_)
    · have hf := ifn c_4 hf
      refine lv_iconst (v := 0) hx hb dX12_rises_22 (by decide) ?_
      refine lv_istore_n (lv' := [(3, .int 0), (0, .ref (a 0)), (1, .int x1), (2, .int x2)]) hx hb dX12_rises_23 rfl hl (by decide) rfl (fun ls hl => ?_)
      refine lv_iconst (v := 1) hx hb dX12_rises_24 (by decide) ?_
      refine lv_istore (lv' := [(4, .int 1), (3, .int 0), (0, .ref (a 0)), (1, .int x1), (2, .int x2)]) hx hb dX12_rises_25 hl (by decide) rfl (fun ls hl => ?_)
      exact w_X12_rises_l27 C N M hP x1 x2 r N 0 1 ls (lv_sub hl [2, 3, 4, 1, 0] rfl) hf
    · have hf := ifp c_4 hf
      refine lv_bipush (v := (-2)) hx hb dX12_rises_19 (by decide) ?_
      obtain rfl := Option.some.inj hf
      exact retR C dX12_rises_21
  · have hf := ifp c_2 hf
    refine lv_iconst (v := (-1)) hx hb dX12_rises_8 (by decide) ?_
    obtain rfl := Option.some.inj hf
    exact retR C dX12_rises_9
set_option maxHeartbeats 4000000 in
set_option maxRecDepth 100000 in
theorem c_X12_beside (l : Launch) (D : va_G) (g : Nat → ClassId) (a : Nat → Nat) (M : Mem) (x1 : Int32) (x2 : Int32) (r : Int32) (hf : f_X12_beside M x1 x2 = some r) : Met l yX12_beside (cW yX12_beside cX12_beside 5 (some .int)) (rmv 0 0) (Pw D (tyL g) (wM g a M) [.ref (a 0), .int x1, .int x2]) (RdQ (.int r)) 0 0 nof := by
  unfold f_X12_beside at hf
  refine met_in (by decide) (Nat.le_of_ble_eq_true rfl) ?_
  intro p e s m args below meth c ls C hP hl
  have C : Cx p s m args meth c cX12_beside 5 (some .int) RX12 D (tyL g) := C
  obtain ⟨hx, hb, hr, hml, hown, ht, hlocks, hK, hN⟩ := id C
  have hl : lv_has ls 5 [(0, .ref (a 0)), (1, .int x1), (2, .int x2)] := hl
  refine lv_iload_n hx hb dX12_beside_0 rfl (lv_at hl 1 rfl) ?_
  refine lv_aload_n hx hb dX12_beside_1 rfl (lv_at hl 0 rfl) ?_
  refine fg_X12_75 C hP dX12_beside_2 ?_
  obtain ⟨h_1, hf⟩ := ifs hf
  refine lv_idiv hx hb dX12_beside_5 h_1 ?_
  refine lv_topi (fun z2 ez2 => ?_)
  have hf := nmr ez2 hf
  refine lv_istore_n (lv' := [(3, .int z2), (0, .ref (a 0)), (1, .int x1), (2, .int x2)]) hx hb dX12_beside_6 rfl hl (by decide) rfl (fun ls hl => ?_)
  refine lv_iload_n hx hb dX12_beside_7 rfl (lv_at hl 2 rfl) ?_
  refine lv_aload_n hx hb dX12_beside_8 rfl (lv_at hl 1 rfl) ?_
  refine fg_X12_75 C hP dX12_beside_9 ?_
  refine lv_irem hx hb dX12_beside_12 h_1 ?_
  refine lv_topi (fun z3 ez3 => ?_)
  have hf := nmr ez3 hf
  refine lv_istore (lv' := [(4, .int z3), (3, .int z2), (0, .ref (a 0)), (1, .int x1), (2, .int x2)]) hx hb dX12_beside_13 hl (by decide) rfl (fun ls hl => ?_)
  refine lv_iload_n hx hb dX12_beside_15 rfl (lv_at hl 4 rfl) ?_
  refine lv_if_ne (tgt := 35) hx hb dX12_beside_16 (by decide) (fun c_4 => ?_) (fun c_4 => ?_)
  · have hf := ifn c_4 hf
    refine lv_iload_n hx hb dX12_beside_35 rfl (lv_at hl 4 rfl) ?_
    refine lv_iconst (v := 1) hx hb dX12_beside_36 (by decide) ?_
    refine lv_icmp_ne (tgt := 54) hx hb dX12_beside_37 (by decide) (fun c_5 => ?_) (fun c_5 => ?_)
    · have hf := ifn c_5 hf
      refine lv_iload_n hx hb dX12_beside_54 rfl (lv_at hl 4 rfl) ?_
      refine lv_iconst (v := 2) hx hb dX12_beside_55 (by decide) ?_
      refine lv_icmp_ne (tgt := 79) hx hb dX12_beside_56 (by decide) (fun c_6 => ?_) (fun c_6 => ?_)
      · have hf := ifn c_6 hf
        refine lv_iload_n hx hb dX12_beside_79 rfl (lv_at hl 1 rfl) ?_
        refine lv_aload_n hx hb dX12_beside_80 rfl (lv_at hl 2 rfl) ?_
        refine fg_X12_72 C hP dX12_beside_81 ?_
        refine lv_iconst (v := 1) hx hb dX12_beside_84 (by decide) ?_
        refine lv_isub hx hb dX12_beside_85 ?_
        refine lv_icmp_ge (tgt := 98) hx hb dX12_beside_86 (by decide) (fun c_7 => ?_) (fun c_7 => ?_)
        · have hf := ifp c_7 hf
          refine lv_bipush (v := (-9)) hx hb dX12_beside_98 (by decide) ?_
          obtain rfl := Option.some.inj hf
          exact retR C dX12_beside_100
        · have hf := ifn c_7 hf
          refine lv_iload_n hx hb dX12_beside_89 rfl (lv_at hl 3 rfl) ?_
          refine lv_aload_n hx hb dX12_beside_90 rfl (lv_at hl 2 rfl) ?_
          refine fg_X12_75 C hP dX12_beside_91 ?_
          refine lv_iadd hx hb dX12_beside_94 ?_
          refine lv_goto (tgt := 100) hx hb dX12_beside_95 (by decide) ?_
          obtain rfl := Option.some.inj hf
          exact retR C dX12_beside_100
      · have hf := ifp c_6 hf
        refine lv_iload hx hb dX12_beside_59 (lv_at hl 0 rfl) ?_
        refine lv_aload_n hx hb dX12_beside_61 rfl (lv_at hl 2 rfl) ?_
        refine fg_X12_75 C hP dX12_beside_62 ?_
        refine lv_iconst (v := 1) hx hb dX12_beside_65 (by decide) ?_
        refine lv_isub hx hb dX12_beside_66 ?_
        refine lv_icmp_ge (tgt := 76) hx hb dX12_beside_67 (by decide) (fun c_8 => ?_) (fun c_8 => ?_)
        · have hf := ifp c_8 hf
          refine lv_bipush (v := (-9)) hx hb dX12_beside_76 (by decide) ?_
          obtain rfl := Option.some.inj hf
          exact retR C dX12_beside_78
        · have hf := ifn c_8 hf
          refine lv_iload_n hx hb dX12_beside_70 rfl (lv_at hl 3 rfl) ?_
          refine lv_iconst (v := 1) hx hb dX12_beside_71 (by decide) ?_
          refine lv_iadd hx hb dX12_beside_72 ?_
          refine lv_goto (tgt := 78) hx hb dX12_beside_73 (by decide) ?_
          obtain rfl := Option.some.inj hf
          exact retR C dX12_beside_78
    · have hf := ifp c_5 hf
      refine lv_iload hx hb dX12_beside_40 (lv_at hl 0 rfl) ?_
      refine lv_if_le (tgt := 51) hx hb dX12_beside_42 (by decide) (fun c_9 => ?_) (fun c_9 => ?_)
      · have hf := ifp c_9 hf
        refine lv_bipush (v := (-9)) hx hb dX12_beside_51 (by decide) ?_
        obtain rfl := Option.some.inj hf
        exact retR C dX12_beside_53
      · have hf := ifn c_9 hf
        refine lv_iload_n hx hb dX12_beside_45 rfl (lv_at hl 3 rfl) ?_
        refine lv_iconst (v := 1) hx hb dX12_beside_46 (by decide) ?_
        refine lv_isub hx hb dX12_beside_47 ?_
        refine lv_goto (tgt := 53) hx hb dX12_beside_48 (by decide) ?_
        obtain rfl := Option.some.inj hf
        exact retR C dX12_beside_53
  · have hf := ifp c_4 hf
    refine lv_iload_n hx hb dX12_beside_19 rfl (lv_at hl 1 rfl) ?_
    refine lv_if_le (tgt := 32) hx hb dX12_beside_20 (by decide) (fun c_10 => ?_) (fun c_10 => ?_)
    · have hf := ifp c_10 hf
      refine lv_bipush (v := (-9)) hx hb dX12_beside_32 (by decide) ?_
      obtain rfl := Option.some.inj hf
      exact retR C dX12_beside_34
    · have hf := ifn c_10 hf
      refine lv_iload_n hx hb dX12_beside_23 rfl (lv_at hl 3 rfl) ?_
      refine lv_aload_n hx hb dX12_beside_24 rfl (lv_at hl 2 rfl) ?_
      refine fg_X12_75 C hP dX12_beside_25 ?_
      refine lv_isub hx hb dX12_beside_28 ?_
      refine lv_goto (tgt := 34) hx hb dX12_beside_29 (by decide) ?_
      obtain rfl := Option.some.inj hf
      exact retR C dX12_beside_34
set_option maxHeartbeats 4000000 in
set_option maxRecDepth 100000 in
theorem w_X12_isStep_l3 {p : Program} {l : Launch} {e : Env} {s : State} {m : MethodId} {args : Array Value} {below : List Frame} {meth : Method} {c : Code} {D : va_G} {g : Nat → ClassId} {a : Nat → Nat} (C : Cx p s m args meth c cX12_isStep 7 (some .boolean) RX12 D (tyL g)) (N : Nat) (M : Mem) (hP : va_P D clL (wM g a M) s.heap) (x1 : Int32) (x2 : Int32) (x4 : Int32) (x5 : Int32) (r : Int32) :
    ∀ (n : Nat) (x6 : Int32), ∀ (ls : Array Slot), lv_has ls 7 [(0, .ref (a 0)), (1, .int x1), (2, .int x2), (4, .int x4), (5, .int x5), (6, .int x6)] → f_X12_isStep_l3 N M x1 x2 x4 x5 n x6 = some r → W p l e (rmv 2 46) s m args below meth c s.heap [] 0 0 (MQ below (RdQ (.int r)) args s 0 0 nof) (F0 m 3 ls []) := by
  obtain ⟨hx, hb, hr, hml, hown, ht, hlocks, hK, hN⟩ := id C
  intro n
  induction n with
  | zero =>
    intro x6 ls hl hf
    exact nos hf
  | succ n ih =>
    intro x6 ls hl hf
    rw [f_X12_isStep_l3] at hf
    refine lv_iload hx hb dX12_isStep_3 (lv_at hl 5 rfl) ?_
    refine lv_iload hx hb dX12_isStep_5 (lv_at hl 3 rfl) ?_
    refine lv_icmp_gt (tgt := 41) hx hb dX12_isStep_7 (by decide) (fun c_1 => ?_) (fun c_1 => ?_)
    · have hf := ifp c_1 hf
      refine lv_iconst (v := 1) hx hb dX12_isStep_41 (by decide) ?_
      obtain rfl := Option.some.inj hf
      exact retRz C (Or.inr rfl) dX12_isStep_42
    · have hf := ifn c_1 hf
      refine lv_aload_n hx hb dX12_isStep_10 rfl (lv_at hl 0 rfl) ?_
      refine lv_iload_n hx hb dX12_isStep_11 rfl (lv_at hl 1 rfl) ?_
      refine lv_iload hx hb dX12_isStep_12 (lv_at hl 5 rfl) ?_
      obtain ⟨r2, e_2, hf⟩ := bns hf
      refine kR (rV (rest := []) C (c_X12_heightOf l D g a M x1 x6 r2 e_2) ok_X12_heightOf wd_869 hP 0 (aM_0 g a M) rfl ⟨rfl, rfl, Nat.le_of_ble_eq_true rfl, Nat.le_of_ble_eq_true rfl⟩ rfl hl.1 rfl (Nat.le_of_ble_eq_true rfl) dX12_isStep_14 ⟨Nat.le_of_ble_eq_true rfl, Nat.le_of_ble_eq_true rfl⟩) ?_
      refine lv_aload_n hx hb dX12_isStep_17 rfl (lv_at hl 0 rfl) ?_
      refine lv_iload_n hx hb dX12_isStep_18 rfl (lv_at hl 2 rfl) ?_
      refine lv_iload hx hb dX12_isStep_19 (lv_at hl 5 rfl) ?_
      obtain ⟨r3, e_3, hf⟩ := bns hf
      refine kR (rV (rest := [.int r2]) C (c_X12_heightOf l D g a M x2 x6 r3 e_3) ok_X12_heightOf wd_869 hP 0 (aM_0 g a M) rfl ⟨rfl, rfl, Nat.le_of_ble_eq_true rfl, Nat.le_of_ble_eq_true rfl⟩ rfl hl.1 rfl (Nat.le_of_ble_eq_true rfl) dX12_isStep_21 ⟨Nat.le_of_ble_eq_true rfl, Nat.le_of_ble_eq_true rfl⟩) ?_
      refine lv_isub hx hb dX12_isStep_24 ?_
      obtain ⟨r4, e_4, hf⟩ := bns hf
      refine kR (rS (rest := []) C (c_X12_size l D (tyL g) (wM g a M) (r2 - r3) r4 e_4) ok_X12_size wd_898 hP ⟨rfl, rfl, Nat.le_of_ble_eq_true rfl, Nat.le_of_ble_eq_true rfl⟩ rfl hl.1 rfl (Nat.le_of_ble_eq_true rfl) dX12_isStep_25 ⟨Nat.le_of_ble_eq_true rfl, Nat.le_of_ble_eq_true rfl⟩) ?_
      refine lv_iload hx hb dX12_isStep_28 (lv_at hl 4 rfl) ?_
      refine lv_icmp_le (tgt := 35) hx hb dX12_isStep_30 (by decide) (fun c_5 => ?_) (fun c_5 => ?_)
      · have hf := ifp c_5 hf
        refine lv_iinc (v := (x6 + 1)) (lv' := [(6, .int (x6 + 1)), (0, .ref (a 0)), (1, .int x1), (2, .int x2), (4, .int x4), (5, .int x5)]) hx hb dX12_isStep_35 hl (k := 5) rfl rfl (by decide) rfl (fun ls hl => ?_)
        refine lv_goto (tgt := 3) hx hb dX12_isStep_38 (by decide) ?_
        exact ih (x6 + 1) ls (lv_sub hl [1, 2, 3, 4, 5, 0] rfl) hf
      · have hf := ifn c_5 hf
        refine lv_iconst (v := 0) hx hb dX12_isStep_33 (by decide) ?_
        obtain rfl := Option.some.inj hf
        exact retRz C (Or.inl rfl) dX12_isStep_34
set_option maxHeartbeats 4000000 in
set_option maxRecDepth 100000 in
theorem c_X12_isStep (l : Launch) (D : va_G) (g : Nat → ClassId) (a : Nat → Nat) (N : Nat) (M : Mem) (x1 : Int32) (x2 : Int32) (x3 : Int32) (x4 : Int32) (x5 : Int32) (r : Int32) (hf : f_X12_isStep N M x1 x2 x3 x4 x5 = some r) : Met l yX12_isStep (cW yX12_isStep cX12_isStep 7 (some .boolean)) (rmv 2 46) (Pw D (tyL g) (wM g a M) [.ref (a 0), .int x1, .int x2, .int x3, .int x4, .int x5]) (RdQ (.int r)) 0 0 nof := by
  unfold f_X12_isStep at hf
  refine met_in (by decide) (Nat.le_of_ble_eq_true rfl) ?_
  intro p e s m args below meth c ls C hP hl
  have C : Cx p s m args meth c cX12_isStep 7 (some .boolean) RX12 D (tyL g) := C
  obtain ⟨hx, hb, hr, hml, hown, ht, hlocks, hK, hN⟩ := id C
  have hl : lv_has ls 7 [(0, .ref (a 0)), (1, .int x1), (2, .int x2), (3, .int x3), (4, .int x4), (5, .int x5)] := hl
  refine lv_iload_n hx hb dX12_isStep_0 rfl (lv_at hl 3 rfl) ?_
  refine lv_istore (lv' := [(6, .int x3), (0, .ref (a 0)), (1, .int x1), (2, .int x2), (3, .int x3), (4, .int x4), (5, .int x5)]) hx hb dX12_isStep_1 hl (by decide) rfl (fun ls hl => ?_)
  exact w_X12_isStep_l3 C N M hP x1 x2 x4 x5 r N x3 ls (lv_sub hl [1, 2, 3, 5, 6, 0] rfl) hf
