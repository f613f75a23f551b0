set_option maxHeartbeats 4000000 in
set_option maxRecDepth 100000 in
theorem w_X12_sheet_l57 {p : Program} {l : Launch} {e : Env} {s : State} {m : MethodId} {args : Array Value} {below : List Frame} {meth : Method} {c : Code} {D : va_G} {g : Nat → ClassId} {a : Nat → Nat} (C : Cx p s m args meth c cX12_sheet 5 (some .int) RX12 D (tyL g)) (hJ : Inj a 18) (N : Nat) (x1 : Int32) (r : Int32) (M' : Mem) :
    ∀ (n : Nat) (M : Mem) (x4 : Int32), ∀ (H : Heap) (locs : List Loc), va_P D clL (wM g a M) H → va_S (inA a 18) s.heap H locs → ∀ (ls : Array Slot), lv_has ls 5 [(0, .ref (a 0)), (1, .int x1), (4, .int x4)] → f_X12_sheet_l57 N x1 n M x4 = some (r, M') → W p l e (rmv 2 42) s m args below meth c H locs 0 0 (MQ below (WrQ D (wM g a M') (inA a 18) (.int r)) args s 0 0 (inA a 18)) (F0 m 57 ls []) := by
  obtain ⟨hx, hb, hr, hml, hown, ht, hlocks, hK, hN⟩ := id C
  intro n
  induction n with
  | zero =>
    intro M x4 H locs hP hS ls hl hf
    exact nos hf
  | succ n ih =>
    intro M x4 H locs hP hS ls hl hf
    rw [f_X12_sheet_l57] at hf
    refine lv_iload hx hb dX12_sheet_57 (lv_at hl 2 rfl) ?_
    refine lv_bipush (v := 80) hx hb dX12_sheet_59 (by decide) ?_
    refine lv_icmp_ge (tgt := 83) hx hb dX12_sheet_61 (by decide) (fun c_11 => ?_) (fun c_11 => ?_)
    · have hf := ifp c_11 hf
      refine lv_iconst (v := 1) hx hb dX12_sheet_83 (by decide) ?_
      obtain ⟨rfl, rfl⟩ := Prod.mk.inj (Option.some.inj hf)
      exact retW C hP hS dX12_sheet_84
    · have hf := ifn c_11 hf
      refine lv_aload_n hx hb dX12_sheet_64 rfl (lv_at hl 0 rfl) ?_
      refine fg_X12_16 C hP dX12_sheet_65 ?_
      refine lv_bipush (v := 80) hx hb dX12_sheet_68 (by decide) ?_
      refine lv_iload_n hx hb dX12_sheet_70 rfl (lv_at hl 1 rfl) ?_
      refine lv_imul hx hb dX12_sheet_71 ?_
      refine lv_iload hx hb dX12_sheet_72 (lv_at hl 2 rfl) ?_
      refine lv_iadd hx hb dX12_sheet_74 ?_
      refine lv_iconst (v := 0) hx hb dX12_sheet_75 (by decide) ?_
      obtain ⟨h_12, hf⟩ := ifs hf
      refine ast (wM g a) C hP (wM_D hJ) hS 3 0 (aM_3 g a M) rfl (sM_3 g a M) h_12 dX12_sheet_76 (fun H locs hP hS => ?_)
      obtain ⟨M13, eM13, hf⟩ := nms hf
      have hP : va_P D clL (wM g a M13) H := by rw [eM13]; exact hP
      refine lv_iinc (v := (x4 + 1)) (lv' := [(4, .int (x4 + 1)), (0, .ref (a 0)), (1, .int x1)]) hx hb dX12_sheet_77 hl (k := 2) rfl rfl (by decide) rfl (fun ls hl => ?_)
      refine lv_goto (tgt := 57) hx hb dX12_sheet_80 (by decide) ?_
      exact ih M13 (x4 + 1) H locs hP hS ls (lv_sub hl [1, 2, 0] rfl) hf
set_option maxHeartbeats 4000000 in
set_option maxRecDepth 100000 in
theorem c_X12_sheet (l : Launch) (D : va_G) (g : Nat → ClassId) (a : Nat → Nat) (hJ : Inj a 18) (N : Nat) (M : Mem) (x1 : Int32) (x2 : Int32) (x3 : Int32) (r : Int32) (M' : Mem) (hf : f_X12_sheet N M x1 x2 x3 = some (r, M')) : Met l yX12_sheet (cW yX12_sheet cX12_sheet 5 (some .int)) (rmv 2 42) (Pw D (tyL g) (wM g a M) [.ref (a 0), .int x1, .int x2, .int x3]) (WrQ D (wM g a M') (inA a 18) (.int r)) 0 0 (inA a 18) := by
  unfold f_X12_sheet at hf
  refine met_inW (A := (inA a 18)) (by decide) (Nat.le_of_ble_eq_true rfl) ?_
  intro p e s m args below meth c ls H locs C hP hS hl
  have C : Cx p s m args meth c cX12_sheet 5 (some .int) RX12 D (tyL g) := C
  obtain ⟨hx, hb, hr, hml, hown, ht, hlocks, hK, hN⟩ := id C
  have hl : lv_has ls 5 [(0, .ref (a 0)), (1, .int x1), (2, .int x2), (3, .int x3)] := hl
  refine lv_aload_n hx hb dX12_sheet_0 rfl (lv_at hl 0 rfl) ?_
  refine lv_iconst (v := 0) hx hb dX12_sheet_1 (by decide) ?_
  refine fp_X12_62 C hP (wM_D hJ) hS dX12_sheet_2 (fun H locs hP hS => ?_)
  obtain ⟨M1, eM1, hf⟩ := nms hf
  have hP : va_P D clL (wM g a M1) H := by rw [eM1]; exact hP
  refine lv_iload_n hx hb dX12_sheet_5 rfl (lv_at hl 1 rfl) ?_
  obtain ⟨r2, e_2, hf⟩ := bns hf
  refine kR (rS (rest := []) C (c_X12_isSheet l D (tyL g) (wM g a M1) x1 r2 e_2) ok_X12_isSheet wd_813 hP ⟨rfl, rfl, Nat.le_of_ble_eq_true rfl, Nat.le_of_ble_eq_true rfl⟩ rfl hl.1 rfl (Nat.le_of_ble_eq_true rfl) dX12_sheet_6 ⟨Nat.le_of_ble_eq_true rfl, Nat.le_of_ble_eq_true rfl⟩) ?_
  refine lv_if_ne (tgt := 14) hx hb dX12_sheet_9 (by decide) (fun c_3 => ?_) (fun c_3 => ?_)
  · have hf := ifn c_3 hf
    refine lv_iload_n hx hb dX12_sheet_14 rfl (lv_at hl 2 rfl) ?_
    obtain ⟨r4, e_4, hf⟩ := bns hf
    refine kR (rS (rest := []) C (c_X12_isSort l D (tyL g) (wM g a M1) x2 r4 e_4) ok_X12_isSort wd_819 hP ⟨rfl, rfl, Nat.le_of_ble_eq_true rfl, Nat.le_of_ble_eq_true rfl⟩ rfl hl.1 rfl (Nat.le_of_ble_eq_true rfl) dX12_sheet_15 ⟨Nat.le_of_ble_eq_true rfl, Nat.le_of_ble_eq_true rfl⟩) ?_
    refine lv_if_eq (tgt := 27) hx hb dX12_sheet_18 (by decide) (fun c_5 => ?_) (fun c_5 => ?_)
    · have hf := ifp c_5 hf
      refine lv_bipush (v := (-2)) hx hb dX12_sheet_27 (by decide) ?_
      obtain ⟨rfl, rfl⟩ := Prod.mk.inj (Option.some.inj hf)
      exact retW C hP hS dX12_sheet_29
    · have hf := ifn c_5 hf
      refine lv_iload_n hx hb dX12_sheet_21 rfl (lv_at hl 3 rfl) ?_
      refine lv_bipush (v := 80) hx hb dX12_sheet_22 (by decide) ?_
      refine lv_icmp_le (tgt := 30) hx hb dX12_sheet_24 (by decide) (fun c_6 => ?_) (fun c_6 => ?_)
      · have hf := ifp c_6 hf
        refine lv_iload_n hx hb dX12_sheet_30 rfl (lv_at hl 3 rfl) ?_
        refine lv_if_ge (tgt := 40) hx hb dX12_sheet_31 (by decide) (fun c_7 => ?_) (fun c_7 => ?_)
        · have hf := ifp c_7 hf
          refine lv_aload_n hx hb dX12_sheet_40 rfl (lv_at hl 0 rfl) ?_
          refine fg_X12_9 C hP dX12_sheet_41 ?_
          refine lv_iload_n hx hb dX12_sheet_44 rfl (lv_at hl 1 rfl) ?_
          refine lv_iload_n hx hb dX12_sheet_45 rfl (lv_at hl 2 rfl) ?_
          obtain ⟨h_8, hf⟩ := ifs hf
          refine ast (wM g a) C hP (wM_D hJ) hS 1 0 (aM_1 g a M1) rfl (sM_1 g a M1) h_8 dX12_sheet_46 (fun H locs hP hS => ?_)
          obtain ⟨M9, eM9, hf⟩ := nms hf
          have hP : va_P D clL (wM g a M9) H := by rw [eM9]; exact hP
          refine lv_aload_n hx hb dX12_sheet_47 rfl (lv_at hl 0 rfl) ?_
          refine fg_X12_13 C hP dX12_sheet_48 ?_
          refine lv_iload_n hx hb dX12_sheet_51 rfl (lv_at hl 1 rfl) ?_
          refine lv_iload_n hx hb dX12_sheet_52 rfl (lv_at hl 3 rfl) ?_
          refine ast (wM g a) C hP (wM_D hJ) hS 2 0 (aM_2 g a M9) rfl (sM_2 g a M9) h_8 dX12_sheet_53 (fun H locs hP hS => ?_)
          obtain ⟨M10, eM10, hf⟩ := nms hf
          have hP : va_P D clL (wM g a M10) H := by rw [eM10]; exact hP
          refine lv_iconst (v := 0) hx hb dX12_sheet_54 (by decide) ?_
          refine lv_istore (lv' := [(4, .int 0), (0, .ref (a 0)), (1, .int x1), (2, .int x2), (3, .int x3)]) hx hb dX12_sheet_55 hl (by decide) rfl (fun ls hl => ?_)
          exact w_X12_sheet_l57 C hJ N x1 r M' N M10 0 H locs hP hS ls (lv_sub hl [1, 2, 0] rfl) hf
        · have hf := ifn c_7 hf
          refine lv_aload_n hx hb dX12_sheet_34 rfl (lv_at hl 0 rfl) ?_
          refine lv_iconst (v := 4) hx hb dX12_sheet_35 (by decide) ?_
          obtain ⟨q14, e_14, hf⟩ := bns hf
          refine kW (rV (rest := []) C (c_X12_fails l D g a hJ M1 4 q14.1 q14.2 e_14) ok_X12_fails wd_826 hP 0 (aM_0 g a M1) rfl ⟨rfl, rfl, Nat.le_of_ble_eq_true rfl, Nat.le_of_ble_eq_true rfl⟩ rfl hl.1 rfl (Nat.le_of_ble_eq_true rfl) dX12_sheet_36 ⟨Nat.le_of_ble_eq_true rfl, Nat.le_of_ble_eq_true rfl⟩) hS (fun H locs hP hS => ?_)
          obtain ⟨rfl, rfl⟩ := Prod.mk.inj (Option.some.inj hf)
          exact retW C hP hS dX12_sheet_39
      · have hf := ifn c_6 hf
        refine lv_bipush (v := (-2)) hx hb dX12_sheet_27 (by decide) ?_
        obtain ⟨rfl, rfl⟩ := Prod.mk.inj (Option.some.inj hf)
        exact retW C hP hS dX12_sheet_29
  · have hf := ifp c_3 hf
    refine lv_iconst (v := (-1)) hx hb dX12_sheet_12 (by decide) ?_
    obtain ⟨rfl, rfl⟩ := Prod.mk.inj (Option.some.inj hf)
    exact retW C hP hS dX12_sheet_13
set_option maxHeartbeats 4000000 in
set_option maxRecDepth 100000 in
theorem c_X12_lose (l : Launch) (D : va_G) (g : Nat → ClassId) (a : Nat → Nat) (hJ : Inj a 18) (M : Mem) (x1 : Int32) (r : Int32) (M' : Mem) (hf : f_X12_lose M x1 = some (r, M')) : Met l yX12_lose (cW yX12_lose cX12_lose 3 (some .int)) (rmv 2 42) (Pw D (tyL g) (wM g a M) [.ref (a 0), .int x1]) (WrQ D (wM g a M') (inA a 18) (.int r)) 0 0 (inA a 18) := by
  unfold f_X12_lose at hf
  refine met_inW (A := (inA a 18)) (by decide) (Nat.le_of_ble_eq_true rfl) ?_
  intro p e s m args below meth c ls H locs C hP hS hl
  have C : Cx p s m args meth c cX12_lose 3 (some .int) RX12 D (tyL g) := C
  obtain ⟨hx, hb, hr, hml, hown, ht, hlocks, hK, hN⟩ := id C
  have hl : lv_has ls 3 [(0, .ref (a 0)), (1, .int x1)] := hl
  refine lv_iload_n hx hb dX12_lose_0 rfl (lv_at hl 1 rfl) ?_
  obtain ⟨r1, e_1, hf⟩ := bns hf
  refine kR (rS (rest := []) C (c_X12_isSheet l D (tyL g) (wM g a M) x1 r1 e_1) ok_X12_isSheet wd_813 hP ⟨rfl, rfl, Nat.le_of_ble_eq_true rfl, Nat.le_of_ble_eq_true rfl⟩ rfl hl.1 rfl (Nat.le_of_ble_eq_true rfl) dX12_lose_1 ⟨Nat.le_of_ble_eq_true rfl, Nat.le_of_ble_eq_true rfl⟩) ?_
  refine lv_if_ne (tgt := 9) hx hb dX12_lose_4 (by decide) (fun c_2 => ?_) (fun c_2 => ?_)
  · have hf := ifn c_2 hf
    refine lv_aload_n hx hb dX12_lose_9 rfl (lv_at hl 0 rfl) ?_
    refine fg_X12_9 C hP dX12_lose_10 ?_
    refine lv_iload_n hx hb dX12_lose_13 rfl (lv_at hl 1 rfl) ?_
    obtain ⟨h_3, hf⟩ := ifs hf
    refine va_iald hx hb hK hP 1 0 (aM_1 g a M) rfl h_3 dX12_lose_14 ?_
    refine lv_bipush (v := (-9)) hx hb dX12_lose_15 (by decide) ?_
    refine lv_icmp_ne (tgt := 24) hx hb dX12_lose_17 (by decide) (fun c_4 => ?_) (fun c_4 => ?_)
    · have hf := ifn c_4 hf
      refine lv_iconst (v := 1) hx hb dX12_lose_24 (by decide) ?_
      refine lv_istore_n (lv' := [(2, .int 1), (0, .ref (a 0)), (1, .int x1)]) hx hb dX12_lose_25 rfl hl (by decide) rfl (fun ls hl => ?_)
      refine lv_aload_n hx hb dX12_lose_26 rfl (lv_at hl 1 rfl) ?_
      refine fg_X12_9 C hP dX12_lose_27 ?_
      refine lv_iload_n hx hb dX12_lose_30 rfl (lv_at hl 2 rfl) ?_
      refine lv_bipush (v := (-9)) hx hb dX12_lose_31 (by decide) ?_
      refine ast (wM g a) C hP (wM_D hJ) hS 1 0 (aM_1 g a M) rfl (sM_1 g a M) h_3 dX12_lose_33 (fun H locs hP hS => ?_)
      obtain ⟨M5, eM5, hf⟩ := nms hf
      have hP : va_P D clL (wM g a M5) H := by rw [eM5]; exact hP
      refine lv_iload_n hx hb dX12_lose_34 rfl (lv_at hl 0 rfl) ?_
      obtain ⟨rfl, rfl⟩ := Prod.mk.inj (Option.some.inj hf)
      exact retW C hP hS dX12_lose_35
    · have hf := ifp c_4 hf
      refine lv_iconst (v := 0) hx hb dX12_lose_20 (by decide) ?_
      refine lv_goto (tgt := 25) hx hb dX12_lose_21 (by decide) ?_
      refine lv_istore_n (lv' := [(2, .int 0), (0, .ref (a 0)), (1, .int x1)]) hx hb dX12_lose_25 rfl hl (by decide) rfl (fun ls hl => ?_)
      refine lv_aload_n hx hb dX12_lose_26 rfl (lv_at hl 1 rfl) ?_
      refine fg_X12_9 C hP dX12_lose_27 ?_
      refine lv_iload_n hx hb dX12_lose_30 rfl (lv_at hl 2 rfl) ?_
      refine lv_bipush (v := (-9)) hx hb dX12_lose_31 (by decide) ?_
      refine ast (wM g a) C hP (wM_D hJ) hS 1 0 (aM_1 g a M) rfl (sM_1 g a M) h_3 dX12_lose_33 (fun H locs hP hS => ?_)
      obtain ⟨M6, eM6, hf⟩ := nms hf
      have hP : va_P D clL (wM g a M6) H := by rw [eM6]; exact hP
      refine lv_iload_n hx hb dX12_lose_34 rfl (lv_at hl 0 rfl) ?_
      obtain ⟨rfl, rfl⟩ := Prod.mk.inj (Option.some.inj hf)
      exact retW C hP hS dX12_lose_35
  · have hf := ifp c_2 hf
    refine lv_iconst (v := (-1)) hx hb dX12_lose_7 (by decide) ?_
    obtain ⟨rfl, rfl⟩ := Prod.mk.inj (Option.some.inj hf)
    exact retW C hP hS dX12_lose_8
set_option maxHeartbeats 4000000 in
set_option maxRecDepth 100000 in
theorem c_X12_put (l : Launch) (D : va_G) (g : Nat → ClassId) (a : Nat → Nat) (hJ : Inj a 18) (M : Mem) (x1 : Int32) (x2 : Int32) (x3 : Int32) (r : Int32) (M' : Mem) (hf : f_X12_put M x1 x2 x3 = some (r, M')) : Met l yX12_put (cW yX12_put cX12_put 4 (some .int)) (rmv 2 42) (Pw D (tyL g) (wM g a M) [.ref (a 0), .int x1, .int x2, .int x3]) (WrQ D (wM g a M') (inA a 18) (.int r)) 0 0 (inA a 18) := by
  unfold f_X12_put at hf
  refine met_inW (A := (inA a 18)) (by decide) (Nat.le_of_ble_eq_true rfl) ?_
  intro p e s m args below meth c ls H locs C hP hS hl
  have C : Cx p s m args meth c cX12_put 4 (some .int) RX12 D (tyL g) := C
  obtain ⟨hx, hb, hr, hml, hown, ht, hlocks, hK, hN⟩ := id C
  have hl : lv_has ls 4 [(0, .ref (a 0)), (1, .int x1), (2, .int x2), (3, .int x3)] := hl
  refine lv_aload_n hx hb dX12_put_0 rfl (lv_at hl 0 rfl) ?_
  refine lv_iconst (v := 0) hx hb dX12_put_1 (by decide) ?_
  refine fp_X12_62 C hP (wM_D hJ) hS dX12_put_2 (fun H locs hP hS => ?_)
  obtain ⟨M1, eM1, hf⟩ := nms hf
  have hP : va_P D clL (wM g a M1) H := by rw [eM1]; exact hP
  refine lv_iload_n hx hb dX12_put_5 rfl (lv_at hl 1 rfl) ?_
  obtain ⟨r2, e_2, hf⟩ := bns hf
  refine kR (rS (rest := []) C (c_X12_isSheet l D (tyL g) (wM g a M1) x1 r2 e_2) ok_X12_isSheet wd_813 hP ⟨rfl, rfl, Nat.le_of_ble_eq_true rfl, Nat.le_of_ble_eq_true rfl⟩ rfl hl.1 rfl (Nat.le_of_ble_eq_true rfl) dX12_put_6 ⟨Nat.le_of_ble_eq_true rfl, Nat.le_of_ble_eq_true rfl⟩) ?_
  refine lv_if_ne (tgt := 14) hx hb dX12_put_9 (by decide) (fun c_3 => ?_) (fun c_3 => ?_)
  · have hf := ifn c_3 hf
    refine lv_aload_n hx hb dX12_put_14 rfl (lv_at hl 0 rfl) ?_
    refine fg_X12_9 C hP dX12_put_15 ?_
    refine lv_iload_n hx hb dX12_put_18 rfl (lv_at hl 1 rfl) ?_
    obtain ⟨h_4, hf⟩ := ifs hf
    refine va_iald hx hb hK hP 1 0 (aM_1 g a M1) rfl h_4 dX12_put_19 ?_
    refine lv_bipush (v := (-9)) hx hb dX12_put_20 (by decide) ?_
    refine lv_icmp_ne (tgt := 31) hx hb dX12_put_22 (by decide) (fun c_5 => ?_) (fun c_5 => ?_)
    · have hf := ifn c_5 hf
      refine lv_iload_n hx hb dX12_put_31 rfl (lv_at hl 2 rfl) ?_
      refine lv_iconst (v := 0) hx hb dX12_put_32 (by decide) ?_
      refine lv_aload_n hx hb dX12_put_33 rfl (lv_at hl 0 rfl) ?_
      refine fg_X12_13 C hP dX12_put_34 ?_
      refine lv_iload_n hx hb dX12_put_37 rfl (lv_at hl 1 rfl) ?_
      refine va_iald hx hb hK hP 2 0 (aM_2 g a M1) rfl h_4 dX12_put_38 ?_
      refine lv_iconst (v := 1) hx hb dX12_put_39 (by decide) ?_
      refine lv_isub hx hb dX12_put_40 ?_
      obtain ⟨r6, e_6, hf⟩ := bns hf
      refine kR (rS (rest := []) C (c_X12_within l D (tyL g) (wM g a M1) x2 0 ((M1 2 x1.toNatClampNeg) - 1) r6 e_6) ok_X12_within wd_816 hP ⟨rfl, rfl, Nat.le_of_ble_eq_true rfl, Nat.le_of_ble_eq_true rfl⟩ rfl hl.1 rfl (Nat.le_of_ble_eq_true rfl) dX12_put_41 ⟨Nat.le_of_ble_eq_true rfl, Nat.le_of_ble_eq_true rfl⟩) ?_
      refine lv_if_ne (tgt := 53) hx hb dX12_put_44 (by decide) (fun c_7 => ?_) (fun c_7 => ?_)
      · have hf := ifn c_7 hf
        refine lv_aload_n hx hb dX12_put_53 rfl (lv_at hl 0 rfl) ?_
        refine fg_X12_16 C hP dX12_put_54 ?_
        refine lv_bipush (v := 80) hx hb dX12_put_57 (by decide) ?_
        refine lv_iload_n hx hb dX12_put_59 rfl (lv_at hl 1 rfl) ?_
        refine lv_imul hx hb dX12_put_60 ?_
        refine lv_iload_n hx hb dX12_put_61 rfl (lv_at hl 2 rfl) ?_
        refine lv_iadd hx hb dX12_put_62 ?_
        refine lv_aload_n hx hb dX12_put_63 rfl (lv_at hl 0 rfl) ?_
        refine fg_X12_9 C hP dX12_put_64 ?_
        refine lv_iload_n hx hb dX12_put_67 rfl (lv_at hl 1 rfl) ?_
        refine va_iald hx hb hK hP 1 0 (aM_1 g a M1) rfl h_4 dX12_put_68 ?_
        refine lv_if_ne (tgt := 77) hx hb dX12_put_69 (by decide) (fun c_8 => ?_) (fun c_8 => ?_)
        · have hf := ifn c_8 hf
          refine lv_aload_n hx hb dX12_put_77 rfl (lv_at hl 0 rfl) ?_
          refine fg_X12_9 C hP dX12_put_78 ?_
          refine lv_iload_n hx hb dX12_put_81 rfl (lv_at hl 1 rfl) ?_
          refine va_iald hx hb hK hP 1 0 (aM_1 g a M1) rfl h_4 dX12_put_82 ?_
          refine lv_iconst (v := 1) hx hb dX12_put_83 (by decide) ?_
          refine lv_icmp_ne (tgt := 92) hx hb dX12_put_84 (by decide) (fun c_9 => ?_) (fun c_9 => ?_)
          · have hf := ifn c_9 hf
            refine lv_iload_n hx hb dX12_put_92 rfl (lv_at hl 3 rfl) ?_
            obtain ⟨h_10, hf⟩ := ifs hf
            refine ast (wM g a) C hP (wM_D hJ) hS 3 0 (aM_3 g a M1) rfl (sM_3 g a M1) h_10 dX12_put_93 (fun H locs hP hS => ?_)
            obtain ⟨M11, eM11, hf⟩ := nms hf
            have hP : va_P D clL (wM g a M11) H := by rw [eM11]; exact hP
            refine lv_iconst (v := 1) hx hb dX12_put_94 (by decide) ?_
            obtain ⟨rfl, rfl⟩ := Prod.mk.inj (Option.some.inj hf)
            exact retW C hP hS dX12_put_95
          · have hf := ifp c_9 hf
            refine lv_iload_n hx hb dX12_put_87 rfl (lv_at hl 3 rfl) ?_
            refine lv_i2s (v := x3.toInt16.toInt32) hx hb dX12_put_88 rfl ?_
            refine lv_goto (tgt := 93) hx hb dX12_put_89 (by decide) ?_
            obtain ⟨h_12, hf⟩ := ifs hf
            refine ast (wM g a) C hP (wM_D hJ) hS 3 0 (aM_3 g a M1) rfl (sM_3 g a M1) h_12 dX12_put_93 (fun H locs hP hS => ?_)
            obtain ⟨M13, eM13, hf⟩ := nms hf
            have hP : va_P D clL (wM g a M13) H := by rw [eM13]; exact hP
            refine lv_iconst (v := 1) hx hb dX12_put_94 (by decide) ?_
            obtain ⟨rfl, rfl⟩ := Prod.mk.inj (Option.some.inj hf)
            exact retW C hP hS dX12_put_95
        · have hf := ifp c_8 hf
          refine lv_iload_n hx hb dX12_put_72 rfl (lv_at hl 3 rfl) ?_
          refine lv_i2b (v := x3.toInt8.toInt32) hx hb dX12_put_73 rfl ?_
          refine lv_goto (tgt := 93) hx hb dX12_put_74 (by decide) ?_
          obtain ⟨h_14, hf⟩ := ifs hf
          refine ast (wM g a) C hP (wM_D hJ) hS 3 0 (aM_3 g a M1) rfl (sM_3 g a M1) h_14 dX12_put_93 (fun H locs hP hS => ?_)
          obtain ⟨M15, eM15, hf⟩ := nms hf
          have hP : va_P D clL (wM g a M15) H := by rw [eM15]; exact hP
          refine lv_iconst (v := 1) hx hb dX12_put_94 (by decide) ?_
          obtain ⟨rfl, rfl⟩ := Prod.mk.inj (Option.some.inj hf)
          exact retW C hP hS dX12_put_95
      · have hf := ifp c_7 hf
        refine lv_aload_n hx hb dX12_put_47 rfl (lv_at hl 0 rfl) ?_
        refine lv_iconst (v := 3) hx hb dX12_put_48 (by decide) ?_
        obtain ⟨q16, e_16, hf⟩ := bns hf
        refine kW (rV (rest := []) C (c_X12_fails l D g a hJ M1 3 q16.1 q16.2 e_16) ok_X12_fails wd_826 hP 0 (aM_0 g a M1) rfl ⟨rfl, rfl, Nat.le_of_ble_eq_true rfl, Nat.le_of_ble_eq_true rfl⟩ rfl hl.1 rfl (Nat.le_of_ble_eq_true rfl) dX12_put_49 ⟨Nat.le_of_ble_eq_true rfl, Nat.le_of_ble_eq_true rfl⟩) hS (fun H locs hP hS => ?_)
        obtain ⟨rfl, rfl⟩ := Prod.mk.inj (Option.some.inj hf)
        exact retW C hP hS dX12_put_52
    · have hf := ifp c_5 hf
      refine lv_aload_n hx hb dX12_put_25 rfl (lv_at hl 0 rfl) ?_
      refine lv_iconst (v := 1) hx hb dX12_put_26 (by decide) ?_
      obtain ⟨q17, e_17, hf⟩ := bns hf
      refine kW (rV (rest := []) C (c_X12_fails l D g a hJ M1 1 q17.1 q17.2 e_17) ok_X12_fails wd_826 hP 0 (aM_0 g a M1) rfl ⟨rfl, rfl, Nat.le_of_ble_eq_true rfl, Nat.le_of_ble_eq_true rfl⟩ rfl hl.1 rfl (Nat.le_of_ble_eq_true rfl) dX12_put_27 ⟨Nat.le_of_ble_eq_true rfl, Nat.le_of_ble_eq_true rfl⟩) hS (fun H locs hP hS => ?_)
      obtain ⟨rfl, rfl⟩ := Prod.mk.inj (Option.some.inj hf)
      exact retW C hP hS dX12_put_30
  · have hf := ifp c_3 hf
    refine lv_iconst (v := (-1)) hx hb dX12_put_12 (by decide) ?_
    obtain ⟨rfl, rfl⟩ := Prod.mk.inj (Option.some.inj hf)
    exact retW C hP hS dX12_put_13
set_option maxHeartbeats 4000000 in
set_option maxRecDepth 100000 in
theorem c_X12_cell (l : Launch) (D : va_G) (g : Nat → ClassId) (a : Nat → Nat) (hJ : Inj a 18) (M : Mem) (x1 : Int32) (x2 : Int32) (x3 : Int32) (r : Int64) (M' : Mem) (hf : f_X12_cell M x1 x2 x3 = some (r, M')) : Met l yX12_cell (cW yX12_cell cX12_cell 4 (some .long)) (rmv 2 42) (Pw D (tyL g) (wM g a M) [.ref (a 0), .int x1, .int x2, .int x3]) (WrQ D (wM g a M') (inA a 18) (.long r)) 0 0 (inA a 18) := by
  unfold f_X12_cell at hf
  refine met_inW (A := (inA a 18)) (by decide) (Nat.le_of_ble_eq_true rfl) ?_
  intro p e s m args below meth c ls H locs C hP hS hl
  have C : Cx p s m args meth c cX12_cell 4 (some .long) RX12 D (tyL g) := C
  obtain ⟨hx, hb, hr, hml, hown, ht, hlocks, hK, hN⟩ := id C
  have hl : lv_has ls 4 [(0, .ref (a 0)), (1, .int x1), (2, .int x2), (3, .int x3)] := hl
  refine lv_aload_n hx hb dX12_cell_0 rfl (lv_at hl 0 rfl) ?_
  refine lv_iconst (v := 0) hx hb dX12_cell_1 (by decide) ?_
  refine fp_X12_62 C hP (wM_D hJ) hS dX12_cell_2 (fun H locs hP hS => ?_)
  obtain ⟨M1, eM1, hf⟩ := nms hf
  have hP : va_P D clL (wM g a M1) H := by rw [eM1]; exact hP
  refine lv_iload_n hx hb dX12_cell_5 rfl (lv_at hl 1 rfl) ?_
  obtain ⟨r2, e_2, hf⟩ := bns hf
  refine kR (rS (rest := []) C (c_X12_isSheet l D (tyL g) (wM g a M1) x1 r2 e_2) ok_X12_isSheet wd_813 hP ⟨rfl, rfl, Nat.le_of_ble_eq_true rfl, Nat.le_of_ble_eq_true rfl⟩ rfl hl.1 rfl (Nat.le_of_ble_eq_true rfl) dX12_cell_6 ⟨Nat.le_of_ble_eq_true rfl, Nat.le_of_ble_eq_true rfl⟩) ?_
  refine lv_if_eq (tgt := 19) hx hb dX12_cell_9 (by decide) (fun c_3 => ?_) (fun c_3 => ?_)
  · have hf := ifp c_3 hf
    refine lv_ldc2 hx hb hown (ht _ wd_1017) dX12_cell_19 ?_
    obtain ⟨rfl, rfl⟩ := Prod.mk.inj (Option.some.inj hf)
    exact retWl C hP hS dX12_cell_22
  · have hf := ifn c_3 hf
    refine lv_iload_n hx hb dX12_cell_12 rfl (lv_at hl 3 rfl) ?_
    obtain ⟨r4, e_4, hf⟩ := bns hf
    refine kR (rS (rest := []) C (c_X12_isSort l D (tyL g) (wM g a M1) x3 r4 e_4) ok_X12_isSort wd_819 hP ⟨rfl, rfl, Nat.le_of_ble_eq_true rfl, Nat.le_of_ble_eq_true rfl⟩ rfl hl.1 rfl (Nat.le_of_ble_eq_true rfl) dX12_cell_13 ⟨Nat.le_of_ble_eq_true rfl, Nat.le_of_ble_eq_true rfl⟩) ?_
    refine lv_if_ne (tgt := 23) hx hb dX12_cell_16 (by decide) (fun c_5 => ?_) (fun c_5 => ?_)
    · have hf := ifn c_5 hf
      refine lv_aload_n hx hb dX12_cell_23 rfl (lv_at hl 0 rfl) ?_
      refine fg_X12_9 C hP dX12_cell_24 ?_
      refine lv_iload_n hx hb dX12_cell_27 rfl (lv_at hl 1 rfl) ?_
      obtain ⟨h_6, hf⟩ := ifs hf
      refine va_iald hx hb hK hP 1 0 (aM_1 g a M1) rfl h_6 dX12_cell_28 ?_
      refine lv_bipush (v := (-9)) hx hb dX12_cell_29 (by decide) ?_
      refine lv_icmp_eq (tgt := 50) hx hb dX12_cell_31 (by decide) (fun c_7 => ?_) (fun c_7 => ?_)
      · have hf := ifp c_7 hf
        refine lv_aload_n hx hb dX12_cell_50 rfl (lv_at hl 0 rfl) ?_
        refine fg_X12_9 C hP dX12_cell_51 ?_
        refine lv_iload_n hx hb dX12_cell_54 rfl (lv_at hl 1 rfl) ?_
        refine va_iald hx hb hK hP 1 0 (aM_1 g a M1) rfl h_6 dX12_cell_55 ?_
        refine lv_bipush (v := (-9)) hx hb dX12_cell_56 (by decide) ?_
        refine lv_icmp_ne (tgt := 67) hx hb dX12_cell_58 (by decide) (fun q => absurd c_7 q) (fun _ => ?_)
        refine lv_aload_n hx hb dX12_cell_61 rfl (lv_at hl 0 rfl) ?_
        refine lv_iconst (v := 1) hx hb dX12_cell_62 (by decide) ?_
        obtain ⟨q8, e_8, hf⟩ := bns hf
        refine kW (rV (rest := []) C (c_X12_lost l D g a hJ M1 1 q8.1 q8.2 e_8) ok_X12_lost wd_1018 hP 0 (aM_0 g a M1) rfl ⟨rfl, rfl, Nat.le_of_ble_eq_true rfl, Nat.le_of_ble_eq_true rfl⟩ rfl hl.1 rfl (Nat.le_of_ble_eq_true rfl) dX12_cell_63 ⟨Nat.le_of_ble_eq_true rfl, Nat.le_of_ble_eq_true rfl⟩) hS (fun H locs hP hS => ?_)
        obtain ⟨rfl, rfl⟩ := Prod.mk.inj (Option.some.inj hf)
        exact retWl C hP hS dX12_cell_66
      · have hf := ifn c_7 hf
        refine lv_aload_n hx hb dX12_cell_34 rfl (lv_at hl 0 rfl) ?_
        refine fg_X12_9 C hP dX12_cell_35 ?_
        refine lv_iload_n hx hb dX12_cell_38 rfl (lv_at hl 1 rfl) ?_
        refine va_iald hx hb hK hP 1 0 (aM_1 g a M1) rfl h_6 dX12_cell_39 ?_
        refine lv_iload_n hx hb dX12_cell_40 rfl (lv_at hl 3 rfl) ?_
        refine lv_icmp_eq (tgt := 50) hx hb dX12_cell_41 (by decide) (fun c_9 => ?_) (fun c_9 => ?_)
        · have hf := ifp c_9 hf
          refine lv_aload_n hx hb dX12_cell_50 rfl (lv_at hl 0 rfl) ?_
          refine fg_X12_9 C hP dX12_cell_51 ?_
          refine lv_iload_n hx hb dX12_cell_54 rfl (lv_at hl 1 rfl) ?_
          refine va_iald hx hb hK hP 1 0 (aM_1 g a M1) rfl h_6 dX12_cell_55 ?_
          refine lv_bipush (v := (-9)) hx hb dX12_cell_56 (by decide) ?_
          refine lv_icmp_ne (tgt := 67) hx hb dX12_cell_58 (by decide) (fun _ => ?_) (fun q => absurd q c_7)
          refine lv_iload_n hx hb dX12_cell_67 rfl (lv_at hl 2 rfl) ?_
          refine lv_iconst (v := 0) hx hb dX12_cell_68 (by decide) ?_
          refine lv_aload_n hx hb dX12_cell_69 rfl (lv_at hl 0 rfl) ?_
          refine fg_X12_13 C hP dX12_cell_70 ?_
          refine lv_iload_n hx hb dX12_cell_73 rfl (lv_at hl 1 rfl) ?_
          refine va_iald hx hb hK hP 2 0 (aM_2 g a M1) rfl h_6 dX12_cell_74 ?_
          refine lv_iconst (v := 1) hx hb dX12_cell_75 (by decide) ?_
          refine lv_isub hx hb dX12_cell_76 ?_
          obtain ⟨r10, e_10, hf⟩ := bns hf
          refine kR (rS (rest := []) C (c_X12_within l D (tyL g) (wM g a M1) x2 0 ((M1 2 x1.toNatClampNeg) - 1) r10 e_10) ok_X12_within wd_816 hP ⟨rfl, rfl, Nat.le_of_ble_eq_true rfl, Nat.le_of_ble_eq_true rfl⟩ rfl hl.1 rfl (Nat.le_of_ble_eq_true rfl) dX12_cell_77 ⟨Nat.le_of_ble_eq_true rfl, Nat.le_of_ble_eq_true rfl⟩) ?_
          refine lv_if_ne (tgt := 89) hx hb dX12_cell_80 (by decide) (fun c_11 => ?_) (fun c_11 => ?_)
          · have hf := ifn c_11 hf
            refine lv_aload_n hx hb dX12_cell_89 rfl (lv_at hl 0 rfl) ?_
            refine fg_X12_16 C hP dX12_cell_90 ?_
            refine lv_bipush (v := 80) hx hb dX12_cell_93 (by decide) ?_
            refine lv_iload_n hx hb dX12_cell_95 rfl (lv_at hl 1 rfl) ?_
            refine lv_imul hx hb dX12_cell_96 ?_
            refine lv_iload_n hx hb dX12_cell_97 rfl (lv_at hl 2 rfl) ?_
            refine lv_iadd hx hb dX12_cell_98 ?_
            obtain ⟨h_12, hf⟩ := ifs hf
            refine va_iald hx hb hK hP 3 0 (aM_3 g a M1) rfl h_12 dX12_cell_99 ?_
            refine lv_i2l (v := (M1 3 ((80 * x1) + x2).toNatClampNeg).toInt64) hx hb dX12_cell_100 rfl ?_
            obtain ⟨rfl, rfl⟩ := Prod.mk.inj (Option.some.inj hf)
            exact retWl C hP hS dX12_cell_101
          · have hf := ifp c_11 hf
            refine lv_aload_n hx hb dX12_cell_83 rfl (lv_at hl 0 rfl) ?_
            refine lv_iconst (v := 3) hx hb dX12_cell_84 (by decide) ?_
            obtain ⟨q13, e_13, hf⟩ := bns hf
            refine kW (rV (rest := []) C (c_X12_lost l D g a hJ M1 3 q13.1 q13.2 e_13) ok_X12_lost wd_1018 hP 0 (aM_0 g a M1) rfl ⟨rfl, rfl, Nat.le_of_ble_eq_true rfl, Nat.le_of_ble_eq_true rfl⟩ rfl hl.1 rfl (Nat.le_of_ble_eq_true rfl) dX12_cell_85 ⟨Nat.le_of_ble_eq_true rfl, Nat.le_of_ble_eq_true rfl⟩) hS (fun H locs hP hS => ?_)
            obtain ⟨rfl, rfl⟩ := Prod.mk.inj (Option.some.inj hf)
            exact retWl C hP hS dX12_cell_88
        · have hf := ifn c_9 hf
          refine lv_aload_n hx hb dX12_cell_44 rfl (lv_at hl 0 rfl) ?_
          refine lv_iconst (v := 2) hx hb dX12_cell_45 (by decide) ?_
          obtain ⟨q14, e_14, hf⟩ := bns hf
          refine kW (rV (rest := []) C (c_X12_lost l D g a hJ M1 2 q14.1 q14.2 e_14) ok_X12_lost wd_1018 hP 0 (aM_0 g a M1) rfl ⟨rfl, rfl, Nat.le_of_ble_eq_true rfl, Nat.le_of_ble_eq_true rfl⟩ rfl hl.1 rfl (Nat.le_of_ble_eq_true rfl) dX12_cell_46 ⟨Nat.le_of_ble_eq_true rfl, Nat.le_of_ble_eq_true rfl⟩) hS (fun H locs hP hS => ?_)
          obtain ⟨rfl, rfl⟩ := Prod.mk.inj (Option.some.inj hf)
          exact retWl C hP hS dX12_cell_49
    · have hf := ifp c_5 hf
      refine lv_ldc2 hx hb hown (ht _ wd_1017) dX12_cell_19 ?_
      obtain ⟨rfl, rfl⟩ := Prod.mk.inj (Option.some.inj hf)
      exact retWl C hP hS dX12_cell_22
set_option maxHeartbeats 4000000 in
set_option maxRecDepth 100000 in
theorem w_X12_copy_l166 {p : Program} {l : Launch} {e : Env} {s : State} {m : MethodId} {args : Array Value} {below : List Frame} {meth : Method} {c : Code} {D : va_G} {g : Nat → ClassId} {a : Nat → Nat} (C : Cx p s m args meth c cX12_copy 10 (some .int) RX12 D (tyL g)) (hJ : Inj a 18) (N : Nat) (x1 : Int32) (x2 : Int32) (x3 : Int32) (x4 : Int32) (x5 : Int32) (x7 : Int32) (r : Int32) (M' : Mem) :
    ∀ (n : Nat) (M : Mem) (x8 : Int32), ∀ (H : Heap) (locs : List Loc), va_P D clL (wM g a M) H → va_S (inA a 18) s.heap H locs → ∀ (ls : Array Slot), lv_has ls 10 [(0, .ref (a 0)), (1, .int x1), (2, .int x2), (3, .int x3), (4, .int x4), (5, .int x5), (7, .int x7), (8, .int x8)] → f_X12_copy_l166 N x1 x2 x3 x4 x5 x7 n M x8 = some (r, M') → W p l e (rmv 2 42) s m args below meth c H locs 0 0 (MQ below (WrQ D (wM g a M') (inA a 18) (.int r)) args s 0 0 (inA a 18)) (F0 m 166 ls []) := by
  obtain ⟨hx, hb, hr, hml, hown, ht, hlocks, hK, hN⟩ := id C
  intro n
  induction n with
  | zero =>
    intro M x8 H locs hP hS ls hl hf
    exact nos hf
  | succ n ih =>
    intro M x8 H locs hP hS ls hl hf
    rw [f_X12_copy_l166] at hf
    refine lv_iload hx hb dX12_copy_166 (lv_at hl 7 rfl) ?_
    refine lv_iload hx hb dX12_copy_168 (lv_at hl 5 rfl) ?_
    refine lv_icmp_ge (tgt := 227) hx hb dX12_copy_170 (by decide) (fun c_26 => ?_) (fun c_26 => ?_)
    · have hf := ifp c_26 hf
      refine lv_iload hx hb dX12_copy_227 (lv_at hl 5 rfl) ?_
      obtain ⟨rfl, rfl⟩ := Prod.mk.inj (Option.some.inj hf)
      exact retW C hP hS dX12_copy_229
    · have hf := ifn c_26 hf
      refine lv_iload hx hb dX12_copy_173 (lv_at hl 6 rfl) ?_
      refine lv_if_eq (tgt := 188) hx hb dX12_copy_175 (by decide) (fun c_27 => ?_) (fun c_27 => ?_)
      · have hf := ifp c_27 hf
        refine lv_iload hx hb dX12_copy_188 (lv_at hl 7 rfl) ?_
        refine lv_istore (lv' := [(9, .int x8), (0, .ref (a 0)), (1, .int x1), (2, .int x2), (3, .int x3), (4, .int x4), (5, .int x5), (7, .int x7), (8, .int x8)]) hx hb dX12_copy_190 hl (by decide) rfl (fun ls hl => ?_)
        refine lv_aload_n hx hb dX12_copy_192 rfl (lv_at hl 1 rfl) ?_
        refine fg_X12_16 C hP dX12_copy_193 ?_
        refine lv_bipush (v := 80) hx hb dX12_copy_196 (by decide) ?_
        refine lv_iload_n hx hb dX12_copy_198 rfl (lv_at hl 4 rfl) ?_
        refine lv_imul hx hb dX12_copy_199 ?_
        refine lv_iload hx hb dX12_copy_200 (lv_at hl 5 rfl) ?_
        refine lv_iadd hx hb dX12_copy_202 ?_
        refine lv_iload hx hb dX12_copy_203 (lv_at hl 0 rfl) ?_
        refine lv_iadd hx hb dX12_copy_205 ?_
        refine lv_aload_n hx hb dX12_copy_206 rfl (lv_at hl 1 rfl) ?_
        refine fg_X12_16 C hP dX12_copy_207 ?_
        refine lv_bipush (v := 80) hx hb dX12_copy_210 (by decide) ?_
        refine lv_iload_n hx hb dX12_copy_212 rfl (lv_at hl 2 rfl) ?_
        refine lv_imul hx hb dX12_copy_213 ?_
        refine lv_iload_n hx hb dX12_copy_214 rfl (lv_at hl 3 rfl) ?_
        refine lv_iadd hx hb dX12_copy_215 ?_
        refine lv_iload hx hb dX12_copy_216 (lv_at hl 0 rfl) ?_
        refine lv_iadd hx hb dX12_copy_218 ?_
        obtain ⟨h_28, hf⟩ := ifs hf
        refine va_iald hx hb hK hP 3 0 (aM_3 g a M) rfl h_28 dX12_copy_219 ?_
        obtain ⟨h_29, hf⟩ := ifs hf
        refine ast (wM g a) C hP (wM_D hJ) hS 3 0 (aM_3 g a M) rfl (sM_3 g a M) h_29 dX12_copy_220 (fun H locs hP hS => ?_)
        obtain ⟨M30, eM30, hf⟩ := nms hf
        have hP : va_P D clL (wM g a M30) H := by rw [eM30]; exact hP
        refine lv_iinc (v := (x8 + 1)) (lv' := [(8, .int (x8 + 1)), (9, .int x8), (0, .ref (a 0)), (1, .int x1), (2, .int x2), (3, .int x3), (4, .int x4), (5, .int x5), (7, .int x7)]) hx hb dX12_copy_221 hl (k := 8) rfl rfl (by decide) rfl (fun ls hl => ?_)
        refine lv_goto (tgt := 166) hx hb dX12_copy_224 (by decide) ?_
        exact ih M30 (x8 + 1) H locs hP hS ls (lv_sub hl [2, 3, 4, 5, 6, 7, 8, 0] rfl) hf
      · have hf := ifn c_27 hf
        refine lv_iload hx hb dX12_copy_178 (lv_at hl 5 rfl) ?_
        refine lv_iconst (v := 1) hx hb dX12_copy_180 (by decide) ?_
        refine lv_isub hx hb dX12_copy_181 ?_
        refine lv_iload hx hb dX12_copy_182 (lv_at hl 7 rfl) ?_
        refine lv_isub hx hb dX12_copy_184 ?_
        refine lv_goto (tgt := 190) hx hb dX12_copy_185 (by decide) ?_
        refine lv_topi (fun z31 ez31 => ?_)
        have hf := nmr ez31 hf
        refine lv_istore (lv' := [(9, .int z31), (0, .ref (a 0)), (1, .int x1), (2, .int x2), (3, .int x3), (4, .int x4), (5, .int x5), (7, .int x7), (8, .int x8)]) hx hb dX12_copy_190 hl (by decide) rfl (fun ls hl => ?_)
        refine lv_aload_n hx hb dX12_copy_192 rfl (lv_at hl 1 rfl) ?_
        refine fg_X12_16 C hP dX12_copy_193 ?_
        refine lv_bipush (v := 80) hx hb dX12_copy_196 (by decide) ?_
        refine lv_iload_n hx hb dX12_copy_198 rfl (lv_at hl 4 rfl) ?_
        refine lv_imul hx hb dX12_copy_199 ?_
        refine lv_iload hx hb dX12_copy_200 (lv_at hl 5 rfl) ?_
        refine lv_iadd hx hb dX12_copy_202 ?_
        refine lv_iload hx hb dX12_copy_203 (lv_at hl 0 rfl) ?_
        refine lv_iadd hx hb dX12_copy_205 ?_
        refine lv_aload_n hx hb dX12_copy_206 rfl (lv_at hl 1 rfl) ?_
        refine fg_X12_16 C hP dX12_copy_207 ?_
        refine lv_bipush (v := 80) hx hb dX12_copy_210 (by decide) ?_
        refine lv_iload_n hx hb dX12_copy_212 rfl (lv_at hl 2 rfl) ?_
        refine lv_imul hx hb dX12_copy_213 ?_
        refine lv_iload_n hx hb dX12_copy_214 rfl (lv_at hl 3 rfl) ?_
        refine lv_iadd hx hb dX12_copy_215 ?_
        refine lv_iload hx hb dX12_copy_216 (lv_at hl 0 rfl) ?_
        refine lv_iadd hx hb dX12_copy_218 ?_
        obtain ⟨h_32, hf⟩ := ifs hf
        refine va_iald hx hb hK hP 3 0 (aM_3 g a M) rfl h_32 dX12_copy_219 ?_
        obtain ⟨h_33, hf⟩ := ifs hf
        refine ast (wM g a) C hP (wM_D hJ) hS 3 0 (aM_3 g a M) rfl (sM_3 g a M) h_33 dX12_copy_220 (fun H locs hP hS => ?_)
        obtain ⟨M34, eM34, hf⟩ := nms hf
        have hP : va_P D clL (wM g a M34) H := by rw [eM34]; exact hP
        refine lv_iinc (v := (x8 + 1)) (lv' := [(8, .int (x8 + 1)), (9, .int z31), (0, .ref (a 0)), (1, .int x1), (2, .int x2), (3, .int x3), (4, .int x4), (5, .int x5), (7, .int x7)]) hx hb dX12_copy_221 hl (k := 8) rfl rfl (by decide) rfl (fun ls hl => ?_)
        refine lv_goto (tgt := 166) hx hb dX12_copy_224 (by decide) ?_
        exact ih M34 (x8 + 1) H locs hP hS ls (lv_sub hl [2, 3, 4, 5, 6, 7, 8, 0] rfl) hf
set_option maxHeartbeats 4000000 in
set_option maxRecDepth 100000 in
theorem c_X12_copy (l : Launch) (D : va_G) (g : Nat → ClassId) (a : Nat → Nat) (hJ : Inj a 18) (N : Nat) (M : Mem) (x1 : Int32) (x2 : Int32) (x3 : Int32) (x4 : Int32) (x5 : Int32) (r : Int32) (M' : Mem) (hf : f_X12_copy N M x1 x2 x3 x4 x5 = some (r, M')) : Met l yX12_copy (cW yX12_copy cX12_copy 10 (some .int)) (rmv 2 42) (Pw D (tyL g) (wM g a M) [.ref (a 0), .int x1, .int x2, .int x3, .int x4, .int x5]) (WrQ D (wM g a M') (inA a 18) (.int r)) 0 0 (inA a 18) := by
  unfold f_X12_copy at hf
  refine met_inW (A := (inA a 18)) (by decide) (Nat.le_of_ble_eq_true rfl) ?_
  intro p e s m args below meth c ls H locs C hP hS hl
  have C : Cx p s m args meth c cX12_copy 10 (some .int) RX12 D (tyL g) := C
  obtain ⟨hx, hb, hr, hml, hown, ht, hlocks, hK, hN⟩ := id C
  have hl : lv_has ls 10 [(0, .ref (a 0)), (1, .int x1), (2, .int x2), (3, .int x3), (4, .int x4), (5, .int x5)] := hl
  refine lv_aload_n hx hb dX12_copy_0 rfl (lv_at hl 0 rfl) ?_
  refine lv_iconst (v := 0) hx hb dX12_copy_1 (by decide) ?_
  refine fp_X12_62 C hP (wM_D hJ) hS dX12_copy_2 (fun H locs hP hS => ?_)
  obtain ⟨M1, eM1, hf⟩ := nms hf
  have hP : va_P D clL (wM g a M1) H := by rw [eM1]; exact hP
  refine lv_iload_n hx hb dX12_copy_5 rfl (lv_at hl 1 rfl) ?_
  obtain ⟨r2, e_2, hf⟩ := bns hf
  refine kR (rS (rest := []) C (c_X12_isSheet l D (tyL g) (wM g a M1) x1 r2 e_2) ok_X12_isSheet wd_813 hP ⟨rfl, rfl, Nat.le_of_ble_eq_true rfl, Nat.le_of_ble_eq_true rfl⟩ rfl hl.1 rfl (Nat.le_of_ble_eq_true rfl) dX12_copy_6 ⟨Nat.le_of_ble_eq_true rfl, Nat.le_of_ble_eq_true rfl⟩) ?_
  refine lv_if_eq (tgt := 19) hx hb dX12_copy_9 (by decide) (fun c_3 => ?_) (fun c_3 => ?_)
  · have hf := ifp c_3 hf
    refine lv_iconst (v := (-1)) hx hb dX12_copy_19 (by decide) ?_
    obtain ⟨rfl, rfl⟩ := Prod.mk.inj (Option.some.inj hf)
    exact retW C hP hS dX12_copy_20
  · have hf := ifn c_3 hf
    refine lv_iload_n hx hb dX12_copy_12 rfl (lv_at hl 3 rfl) ?_
    obtain ⟨r4, e_4, hf⟩ := bns hf
    refine kR (rS (rest := []) C (c_X12_isSheet l D (tyL g) (wM g a M1) x3 r4 e_4) ok_X12_isSheet wd_813 hP ⟨rfl, rfl, Nat.le_of_ble_eq_true rfl, Nat.le_of_ble_eq_true rfl⟩ rfl hl.1 rfl (Nat.le_of_ble_eq_true rfl) dX12_copy_13 ⟨Nat.le_of_ble_eq_true rfl, Nat.le_of_ble_eq_true rfl⟩) ?_
    refine lv_if_ne (tgt := 21) hx hb dX12_copy_16 (by decide) (fun c_5 => ?_) (fun c_5 => ?_)
    · have hf := ifn c_5 hf
      refine lv_aload_n hx hb dX12_copy_21 rfl (lv_at hl 0 rfl) ?_
      refine fg_X12_9 C hP dX12_copy_22 ?_
      refine lv_iload_n hx hb dX12_copy_25 rfl (lv_at hl 1 rfl) ?_
      obtain ⟨h_6, hf⟩ := ifs hf
      refine va_iald hx hb hK hP 1 0 (aM_1 g a M1) rfl h_6 dX12_copy_26 ?_
      refine lv_bipush (v := (-9)) hx hb dX12_copy_27 (by decide) ?_
      refine lv_icmp_eq (tgt := 43) hx hb dX12_copy_29 (by decide) (fun c_7 => ?_) (fun c_7 => ?_)
      · have hf := ifp c_7 hf
        refine lv_aload_n hx hb dX12_copy_43 rfl (lv_at hl 0 rfl) ?_
        refine lv_iconst (v := 1) hx hb dX12_copy_44 (by decide) ?_
        obtain ⟨q8, e_8, hf⟩ := bns hf
        refine kW (rV (rest := []) C (c_X12_fails l D g a hJ M1 1 q8.1 q8.2 e_8) ok_X12_fails wd_826 hP 0 (aM_0 g a M1) rfl ⟨rfl, rfl, Nat.le_of_ble_eq_true rfl, Nat.le_of_ble_eq_true rfl⟩ rfl hl.1 rfl (Nat.le_of_ble_eq_true rfl) dX12_copy_45 ⟨Nat.le_of_ble_eq_true rfl, Nat.le_of_ble_eq_true rfl⟩) hS (fun H locs hP hS => ?_)
        obtain ⟨rfl, rfl⟩ := Prod.mk.inj (Option.some.inj hf)
        exact retW C hP hS dX12_copy_48
      · have hf := ifn c_7 hf
        refine lv_aload_n hx hb dX12_copy_32 rfl (lv_at hl 0 rfl) ?_
        refine fg_X12_9 C hP dX12_copy_33 ?_
        refine lv_iload_n hx hb dX12_copy_36 rfl (lv_at hl 3 rfl) ?_
        obtain ⟨h_9, hf⟩ := ifs hf
        refine va_iald hx hb hK hP 1 0 (aM_1 g a M1) rfl h_9 dX12_copy_37 ?_
        refine lv_bipush (v := (-9)) hx hb dX12_copy_38 (by decide) ?_
        refine lv_icmp_ne (tgt := 49) hx hb dX12_copy_40 (by decide) (fun c_10 => ?_) (fun c_10 => ?_)
        · have hf := ifn c_10 hf
          refine lv_aload_n hx hb dX12_copy_49 rfl (lv_at hl 0 rfl) ?_
          refine fg_X12_9 C hP dX12_copy_50 ?_
          refine lv_iload_n hx hb dX12_copy_53 rfl (lv_at hl 1 rfl) ?_
          refine va_iald hx hb hK hP 1 0 (aM_1 g a M1) rfl h_6 dX12_copy_54 ?_
          refine lv_aload_n hx hb dX12_copy_55 rfl (lv_at hl 0 rfl) ?_
          refine fg_X12_9 C hP dX12_copy_56 ?_
          refine lv_iload_n hx hb dX12_copy_59 rfl (lv_at hl 3 rfl) ?_
          refine va_iald hx hb hK hP 1 0 (aM_1 g a M1) rfl h_9 dX12_copy_60 ?_
          refine lv_icmp_eq (tgt := 70) hx hb dX12_copy_61 (by decide) (fun c_11 => ?_) (fun c_11 => ?_)
          · have hf := ifp c_11 hf
            refine lv_iload_n hx hb dX12_copy_70 rfl (lv_at hl 2 rfl) ?_
            refine lv_if_lt (tgt := 109) hx hb dX12_copy_71 (by decide) (fun c_12 => ?_) (fun c_12 => ?_)
            · have hf := ifp c_12 hf
              refine lv_iconst (v := 0) hx hb dX12_copy_109 (by decide) ?_
              refine lv_istore (lv' := [(6, .int 0), (0, .ref (a 0)), (1, .int x1), (2, .int x2), (3, .int x3), (4, .int x4), (5, .int x5)]) hx hb dX12_copy_110 hl (by decide) rfl (fun ls hl => ?_)
              refine lv_iload hx hb dX12_copy_112 (lv_at hl 0 rfl) ?_
              refine lv_if_eq (tgt := 144) hx hb dX12_copy_114 (by decide) (fun _ => ?_) (fun q => absurd q (by decide))
              refine lv_aload_n hx hb dX12_copy_144 rfl (lv_at hl 1 rfl) ?_
              refine lv_iconst (v := 3) hx hb dX12_copy_145 (by decide) ?_
              obtain ⟨q13, e_13, hf⟩ := bns hf
              refine kW (rV (rest := []) C (c_X12_fails l D g a hJ M1 3 q13.1 q13.2 e_13) ok_X12_fails wd_826 hP 0 (aM_0 g a M1) rfl ⟨rfl, rfl, Nat.le_of_ble_eq_true rfl, Nat.le_of_ble_eq_true rfl⟩ rfl hl.1 rfl (Nat.le_of_ble_eq_true rfl) dX12_copy_146 ⟨Nat.le_of_ble_eq_true rfl, Nat.le_of_ble_eq_true rfl⟩) hS (fun H locs hP hS => ?_)
              obtain ⟨rfl, rfl⟩ := Prod.mk.inj (Option.some.inj hf)
              exact retW C hP hS dX12_copy_149
            · have hf := ifn c_12 hf
              refine lv_iload hx hb dX12_copy_74 (lv_at hl 4 rfl) ?_
              refine lv_if_lt (tgt := 109) hx hb dX12_copy_76 (by decide) (fun c_14 => ?_) (fun c_14 => ?_)
              · have hf := ifp c_14 hf
                refine lv_iconst (v := 0) hx hb dX12_copy_109 (by decide) ?_
                refine lv_istore (lv' := [(6, .int 0), (0, .ref (a 0)), (1, .int x1), (2, .int x2), (3, .int x3), (4, .int x4), (5, .int x5)]) hx hb dX12_copy_110 hl (by decide) rfl (fun ls hl => ?_)
                refine lv_iload hx hb dX12_copy_112 (lv_at hl 0 rfl) ?_
                refine lv_if_eq (tgt := 144) hx hb dX12_copy_114 (by decide) (fun _ => ?_) (fun q => absurd q (by decide))
                refine lv_aload_n hx hb dX12_copy_144 rfl (lv_at hl 1 rfl) ?_
                refine lv_iconst (v := 3) hx hb dX12_copy_145 (by decide) ?_
                obtain ⟨q15, e_15, hf⟩ := bns hf
                refine kW (rV (rest := []) C (c_X12_fails l D g a hJ M1 3 q15.1 q15.2 e_15) ok_X12_fails wd_826 hP 0 (aM_0 g a M1) rfl ⟨rfl, rfl, Nat.le_of_ble_eq_true rfl, Nat.le_of_ble_eq_true rfl⟩ rfl hl.1 rfl (Nat.le_of_ble_eq_true rfl) dX12_copy_146 ⟨Nat.le_of_ble_eq_true rfl, Nat.le_of_ble_eq_true rfl⟩) hS (fun H locs hP hS => ?_)
                obtain ⟨rfl, rfl⟩ := Prod.mk.inj (Option.some.inj hf)
                exact retW C hP hS dX12_copy_149
              · have hf := ifn c_14 hf
                refine lv_iload hx hb dX12_copy_79 (lv_at hl 5 rfl) ?_
                refine lv_if_lt (tgt := 109) hx hb dX12_copy_81 (by decide) (fun c_16 => ?_) (fun c_16 => ?_)
                · have hf := ifp c_16 hf
                  refine lv_iconst (v := 0) hx hb dX12_copy_109 (by decide) ?_
                  refine lv_istore (lv' := [(6, .int 0), (0, .ref (a 0)), (1, .int x1), (2, .int x2), (3, .int x3), (4, .int x4), (5, .int x5)]) hx hb dX12_copy_110 hl (by decide) rfl (fun ls hl => ?_)
                  refine lv_iload hx hb dX12_copy_112 (lv_at hl 0 rfl) ?_
                  refine lv_if_eq (tgt := 144) hx hb dX12_copy_114 (by decide) (fun _ => ?_) (fun q => absurd q (by decide))
                  refine lv_aload_n hx hb dX12_copy_144 rfl (lv_at hl 1 rfl) ?_
                  refine lv_iconst (v := 3) hx hb dX12_copy_145 (by decide) ?_
                  obtain ⟨q17, e_17, hf⟩ := bns hf
                  refine kW (rV (rest := []) C (c_X12_fails l D g a hJ M1 3 q17.1 q17.2 e_17) ok_X12_fails wd_826 hP 0 (aM_0 g a M1) rfl ⟨rfl, rfl, Nat.le_of_ble_eq_true rfl, Nat.le_of_ble_eq_true rfl⟩ rfl hl.1 rfl (Nat.le_of_ble_eq_true rfl) dX12_copy_146 ⟨Nat.le_of_ble_eq_true rfl, Nat.le_of_ble_eq_true rfl⟩) hS (fun H locs hP hS => ?_)
                  obtain ⟨rfl, rfl⟩ := Prod.mk.inj (Option.some.inj hf)
                  exact retW C hP hS dX12_copy_149
                · have hf := ifn c_16 hf
                  refine lv_iload_n hx hb dX12_copy_84 rfl (lv_at hl 2 rfl) ?_
                  refine lv_aload_n hx hb dX12_copy_85 rfl (lv_at hl 0 rfl) ?_
                  refine fg_X12_13 C hP dX12_copy_86 ?_
                  refine lv_iload_n hx hb dX12_copy_89 rfl (lv_at hl 1 rfl) ?_
                  refine va_iald hx hb hK hP 2 0 (aM_2 g a M1) rfl h_6 dX12_copy_90 ?_
                  refine lv_icmp_gt (tgt := 109) hx hb dX12_copy_91 (by decide) (fun c_18 => ?_) (fun c_18 => ?_)
                  · have hf := ifp c_18 hf
                    refine lv_iconst (v := 0) hx hb dX12_copy_109 (by decide) ?_
                    refine lv_istore (lv' := [(6, .int 0), (0, .ref (a 0)), (1, .int x1), (2, .int x2), (3, .int x3), (4, .int x4), (5, .int x5)]) hx hb dX12_copy_110 hl (by decide) rfl (fun ls hl => ?_)
                    refine lv_iload hx hb dX12_copy_112 (lv_at hl 0 rfl) ?_
                    refine lv_if_eq (tgt := 144) hx hb dX12_copy_114 (by decide) (fun _ => ?_) (fun q => absurd q (by decide))
                    refine lv_aload_n hx hb dX12_copy_144 rfl (lv_at hl 1 rfl) ?_
                    refine lv_iconst (v := 3) hx hb dX12_copy_145 (by decide) ?_
                    obtain ⟨q19, e_19, hf⟩ := bns hf
                    refine kW (rV (rest := []) C (c_X12_fails l D g a hJ M1 3 q19.1 q19.2 e_19) ok_X12_fails wd_826 hP 0 (aM_0 g a M1) rfl ⟨rfl, rfl, Nat.le_of_ble_eq_true rfl, Nat.le_of_ble_eq_true rfl⟩ rfl hl.1 rfl (Nat.le_of_ble_eq_true rfl) dX12_copy_146 ⟨Nat.le_of_ble_eq_true rfl, Nat.le_of_ble_eq_true rfl⟩) hS (fun H locs hP hS => ?_)
                    obtain ⟨rfl, rfl⟩ := Prod.mk.inj (Option.some.inj hf)
                    exact retW C hP hS dX12_copy_149
                  · have hf := ifn c_18 hf
                    refine lv_iload hx hb dX12_copy_94 (lv_at hl 4 rfl) ?_
                    refine lv_aload_n hx hb dX12_copy_96 rfl (lv_at hl 0 rfl) ?_
                    refine fg_X12_13 C hP dX12_copy_97 ?_
                    refine lv_iload_n hx hb dX12_copy_100 rfl (lv_at hl 3 rfl) ?_
                    refine va_iald hx hb hK hP 2 0 (aM_2 g a M1) rfl h_9 dX12_copy_101 ?_
                    refine lv_icmp_gt (tgt := 109) hx hb dX12_copy_102 (by decide) (fun c_20 => ?_) (fun c_20 => ?_)
                    · have hf := ifp c_20 hf
                      refine lv_iconst (v := 0) hx hb dX12_copy_109 (by decide) ?_
                      refine lv_istore (lv' := [(6, .int 0), (0, .ref (a 0)), (1, .int x1), (2, .int x2), (3, .int x3), (4, .int x4), (5, .int x5)]) hx hb dX12_copy_110 hl (by decide) rfl (fun ls hl => ?_)
                      refine lv_iload hx hb dX12_copy_112 (lv_at hl 0 rfl) ?_
                      refine lv_if_eq (tgt := 144) hx hb dX12_copy_114 (by decide) (fun _ => ?_) (fun q => absurd q (by decide))
                      refine lv_aload_n hx hb dX12_copy_144 rfl (lv_at hl 1 rfl) ?_
                      refine lv_iconst (v := 3) hx hb dX12_copy_145 (by decide) ?_
                      obtain ⟨q21, e_21, hf⟩ := bns hf
                      refine kW (rV (rest := []) C (c_X12_fails l D g a hJ M1 3 q21.1 q21.2 e_21) ok_X12_fails wd_826 hP 0 (aM_0 g a M1) rfl ⟨rfl, rfl, Nat.le_of_ble_eq_true rfl, Nat.le_of_ble_eq_true rfl⟩ rfl hl.1 rfl (Nat.le_of_ble_eq_true rfl) dX12_copy_146 ⟨Nat.le_of_ble_eq_true rfl, Nat.le_of_ble_eq_true rfl⟩) hS (fun H locs hP hS => ?_)
                      obtain ⟨rfl, rfl⟩ := Prod.mk.inj (Option.some.inj hf)
                      exact retW C hP hS dX12_copy_149
                    · have hf := ifn c_20 hf
                      refine lv_iconst (v := 1) hx hb dX12_copy_105 (by decide) ?_
                      refine lv_goto (tgt := 110) hx hb dX12_copy_106 (by decide) ?_
                      refine lv_istore (lv' := [(6, .int 1), (0, .ref (a 0)), (1, .int x1), (2, .int x2), (3, .int x3), (4, .int x4), (5, .int x5)]) hx hb dX12_copy_110 hl (by decide) rfl (fun ls hl => ?_)
                      refine lv_iload hx hb dX12_copy_112 (lv_at hl 0 rfl) ?_
                      refine lv_if_eq (tgt := 144) hx hb dX12_copy_114 (by decide) (fun q => absurd q (by decide)) (fun _ => ?_)
                      refine lv_iload hx hb dX12_copy_117 (lv_at hl 6 rfl) ?_
                      refine lv_aload_n hx hb dX12_copy_119 rfl (lv_at hl 1 rfl) ?_
                      refine fg_X12_13 C hP dX12_copy_120 ?_
                      refine lv_iload_n hx hb dX12_copy_123 rfl (lv_at hl 2 rfl) ?_
                      refine va_iald hx hb hK hP 2 0 (aM_2 g a M1) rfl h_6 dX12_copy_124 ?_
                      refine lv_iload_n hx hb dX12_copy_125 rfl (lv_at hl 3 rfl) ?_
                      refine lv_isub hx hb dX12_copy_126 ?_
                      refine lv_icmp_gt (tgt := 144) hx hb dX12_copy_127 (by decide) (fun c_22 => ?_) (fun c_22 => ?_)
                      · have hf := ifp c_22 hf
                        refine lv_aload_n hx hb dX12_copy_144 rfl (lv_at hl 1 rfl) ?_
                        refine lv_iconst (v := 3) hx hb dX12_copy_145 (by decide) ?_
                        obtain ⟨q23, e_23, hf⟩ := bns hf
                        refine kW (rV (rest := []) C (c_X12_fails l D g a hJ M1 3 q23.1 q23.2 e_23) ok_X12_fails wd_826 hP 0 (aM_0 g a M1) rfl ⟨rfl, rfl, Nat.le_of_ble_eq_true rfl, Nat.le_of_ble_eq_true rfl⟩ rfl hl.1 rfl (Nat.le_of_ble_eq_true rfl) dX12_copy_146 ⟨Nat.le_of_ble_eq_true rfl, Nat.le_of_ble_eq_true rfl⟩) hS (fun H locs hP hS => ?_)
                        obtain ⟨rfl, rfl⟩ := Prod.mk.inj (Option.some.inj hf)
                        exact retW C hP hS dX12_copy_149
                      · have hf := ifn c_22 hf
                        refine lv_iload hx hb dX12_copy_130 (lv_at hl 6 rfl) ?_
                        refine lv_aload_n hx hb dX12_copy_132 rfl (lv_at hl 1 rfl) ?_
                        refine fg_X12_13 C hP dX12_copy_133 ?_
                        refine lv_iload_n hx hb dX12_copy_136 rfl (lv_at hl 4 rfl) ?_
                        refine va_iald hx hb hK hP 2 0 (aM_2 g a M1) rfl h_9 dX12_copy_137 ?_
                        refine lv_iload hx hb dX12_copy_138 (lv_at hl 5 rfl) ?_
                        refine lv_isub hx hb dX12_copy_140 ?_
                        refine lv_icmp_le (tgt := 150) hx hb dX12_copy_141 (by decide) (fun c_24 => ?_) (fun c_24 => ?_)
                        · have hf := ifp c_24 hf
                          refine lv_iload_n hx hb dX12_copy_150 rfl (lv_at hl 3 rfl) ?_
                          refine lv_iload hx hb dX12_copy_151 (lv_at hl 5 rfl) ?_
                          refine lv_icmp_ge (tgt := 160) hx hb dX12_copy_153 (by decide) (fun c_25 => ?_) (fun c_25 => ?_)
                          · have hf := ifp c_25 hf
                            refine lv_iconst (v := 0) hx hb dX12_copy_160 (by decide) ?_
                            refine lv_istore (lv' := [(7, .int 0), (6, .int 1), (0, .ref (a 0)), (1, .int x1), (2, .int x2), (3, .int x3), (4, .int x4), (5, .int x5)]) hx hb dX12_copy_161 hl (by decide) rfl (fun ls hl => ?_)
                            refine lv_iconst (v := 0) hx hb dX12_copy_163 (by decide) ?_
                            refine lv_istore (lv' := [(8, .int 0), (7, .int 0), (6, .int 1), (0, .ref (a 0)), (1, .int x1), (2, .int x2), (3, .int x3), (4, .int x4), (5, .int x5)]) hx hb dX12_copy_164 hl (by decide) rfl (fun ls hl => ?_)
                            exact w_X12_copy_l166 C hJ N x1 x2 x3 x4 x5 0 r M' N M1 0 H locs hP hS ls (lv_sub hl [3, 4, 5, 6, 7, 8, 1, 0] rfl) hf
                          · have hf := ifn c_25 hf
                            refine lv_iconst (v := 1) hx hb dX12_copy_156 (by decide) ?_
                            refine lv_goto (tgt := 161) hx hb dX12_copy_157 (by decide) ?_
                            refine lv_istore (lv' := [(7, .int 1), (6, .int 1), (0, .ref (a 0)), (1, .int x1), (2, .int x2), (3, .int x3), (4, .int x4), (5, .int x5)]) hx hb dX12_copy_161 hl (by decide) rfl (fun ls hl => ?_)
                            refine lv_iconst (v := 0) hx hb dX12_copy_163 (by decide) ?_
                            refine lv_istore (lv' := [(8, .int 0), (7, .int 1), (6, .int 1), (0, .ref (a 0)), (1, .int x1), (2, .int x2), (3, .int x3), (4, .int x4), (5, .int x5)]) hx hb dX12_copy_164 hl (by decide) rfl (fun ls hl => ?_)
                            exact w_X12_copy_l166 C hJ N x1 x2 x3 x4 x5 1 r M' N M1 0 H locs hP hS ls (lv_sub hl [3, 4, 5, 6, 7, 8, 1, 0] rfl) hf
                        · have hf := ifn c_24 hf
                          refine lv_aload_n hx hb dX12_copy_144 rfl (lv_at hl 1 rfl) ?_
                          refine lv_iconst (v := 3) hx hb dX12_copy_145 (by decide) ?_
                          obtain ⟨q35, e_35, hf⟩ := bns hf
                          refine kW (rV (rest := []) C (c_X12_fails l D g a hJ M1 3 q35.1 q35.2 e_35) ok_X12_fails wd_826 hP 0 (aM_0 g a M1) rfl ⟨rfl, rfl, Nat.le_of_ble_eq_true rfl, Nat.le_of_ble_eq_true rfl⟩ rfl hl.1 rfl (Nat.le_of_ble_eq_true rfl) dX12_copy_146 ⟨Nat.le_of_ble_eq_true rfl, Nat.le_of_ble_eq_true rfl⟩) hS (fun H locs hP hS => ?_)
                          obtain ⟨rfl, rfl⟩ := Prod.mk.inj (Option.some.inj hf)
                          exact retW C hP hS dX12_copy_149
          · have hf := ifn c_11 hf
            refine lv_aload_n hx hb dX12_copy_64 rfl (lv_at hl 0 rfl) ?_
            refine lv_iconst (v := 2) hx hb dX12_copy_65 (by decide) ?_
            obtain ⟨q36, e_36, hf⟩ := bns hf
            refine kW (rV (rest := []) C (c_X12_fails l D g a hJ M1 2 q36.1 q36.2 e_36) ok_X12_fails wd_826 hP 0 (aM_0 g a M1) rfl ⟨rfl, rfl, Nat.le_of_ble_eq_true rfl, Nat.le_of_ble_eq_true rfl⟩ rfl hl.1 rfl (Nat.le_of_ble_eq_true rfl) dX12_copy_66 ⟨Nat.le_of_ble_eq_true rfl, Nat.le_of_ble_eq_true rfl⟩) hS (fun H locs hP hS => ?_)
            obtain ⟨rfl, rfl⟩ := Prod.mk.inj (Option.some.inj hf)
            exact retW C hP hS dX12_copy_69
        · have hf := ifp c_10 hf
          refine lv_aload_n hx hb dX12_copy_43 rfl (lv_at hl 0 rfl) ?_
          refine lv_iconst (v := 1) hx hb dX12_copy_44 (by decide) ?_
          obtain ⟨q37, e_37, hf⟩ := bns hf
          refine kW (rV (rest := []) C (c_X12_fails l D g a hJ M1 1 q37.1 q37.2 e_37) ok_X12_fails wd_826 hP 0 (aM_0 g a M1) rfl ⟨rfl, rfl, Nat.le_of_ble_eq_true rfl, Nat.le_of_ble_eq_true rfl⟩ rfl hl.1 rfl (Nat.le_of_ble_eq_true rfl) dX12_copy_45 ⟨Nat.le_of_ble_eq_true rfl, Nat.le_of_ble_eq_true rfl⟩) hS (fun H locs hP hS => ?_)
          obtain ⟨rfl, rfl⟩ := Prod.mk.inj (Option.some.inj hf)
          exact retW C hP hS dX12_copy_48
    · have hf := ifp c_5 hf
      refine lv_iconst (v := (-1)) hx hb dX12_copy_19 (by decide) ?_
      obtain ⟨rfl, rfl⟩ := Prod.mk.inj (Option.some.inj hf)
      exact retW C hP hS dX12_copy_20
set_option maxHeartbeats 4000000 in
set_option maxRecDepth 100000 in
theorem c_X12_begins (l : Launch) (D : va_G) (g : Nat → ClassId) (a : Nat → Nat) (hJ : Inj a 18) (M : Mem) (x1 : Int32) (M' : Mem) (hf : f_X12_begins M x1 = some M') : Met l yX12_begins (cW yX12_begins cX12_begins 2 none) (rmv 0 0) (Pw D (tyL g) (wM g a M) [.ref (a 0), .int x1]) (WvQ D (wM g a M') (inA a 18)) 0 0 (inA a 18) := by
  unfold f_X12_begins at hf
  refine met_inW (A := (inA a 18)) (by decide) (Nat.le_of_ble_eq_true rfl) ?_
  intro p e s m args below meth c ls H locs C hP hS hl
  have C : Cx p s m args meth c cX12_begins 2 none RX12 D (tyL g) := C
  obtain ⟨hx, hb, hr, hml, hown, ht, hlocks, hK, hN⟩ := id C
  have hl : lv_has ls 2 [(0, .ref (a 0)), (1, .int x1)] := hl
  refine lv_aload_n hx hb dX12_begins_0 rfl (lv_at hl 0 rfl) ?_
  refine lv_bipush (v := 31) hx hb dX12_begins_1 (by decide) ?_
  refine lv_aload_n hx hb dX12_begins_3 rfl (lv_at hl 0 rfl) ?_
  refine fg_X12_186 C hP dX12_begins_4 ?_
  refine lv_imul hx hb dX12_begins_7 ?_
  refine lv_iload_n hx hb dX12_begins_8 rfl (lv_at hl 1 rfl) ?_
  refine lv_iadd hx hb dX12_begins_9 ?_
  refine fp_X12_186 C hP (wM_D hJ) hS dX12_begins_10 (fun H locs hP hS => ?_)
  obtain ⟨M1, eM1, hf⟩ := nms hf
  have hP : va_P D clL (wM g a M1) H := by rw [eM1]; exact hP
  obtain rfl := Option.some.inj hf
  exact retWv C hP hS dX12_begins_13
set_option maxHeartbeats 4000000 in
set_option maxRecDepth 100000 in
theorem c_X12_tell (l : Launch) (D : va_G) (g : Nat → ClassId) (a : Nat → Nat) (hJ : Inj a 18) (M : Mem) (x1 : Int32) (r : Int32) (M' : Mem) (hf : f_X12_tell M x1 = some (r, M')) : Met l yX12_tell (cW yX12_tell cX12_tell 3 (some .int)) (rmv 2 41) (Pw D (tyL g) (wM g a M) [.ref (a 0), .int x1]) (WrQ D (wM g a M') (inA a 18) (.int r)) 0 0 (inA a 18) := by
  unfold f_X12_tell at hf
  refine met_inW (A := (inA a 18)) (by decide) (Nat.le_of_ble_eq_true rfl) ?_
  intro p e s m args below meth c ls H locs C hP hS hl
  have C : Cx p s m args meth c cX12_tell 3 (some .int) RX12 D (tyL g) := C
  obtain ⟨hx, hb, hr, hml, hown, ht, hlocks, hK, hN⟩ := id C
  have hl : lv_has ls 3 [(0, .ref (a 0)), (1, .int x1)] := hl
  refine lv_aload_n hx hb dX12_tell_0 rfl (lv_at hl 0 rfl) ?_
  refine lv_iload_n hx hb dX12_tell_1 rfl (lv_at hl 1 rfl) ?_
  obtain ⟨r1, e_1, hf⟩ := bns hf
  refine kR (rV (rest := []) C (c_X12_isStone l D g a M x1 r1 e_1) ok_X12_isStone wd_850 hP 0 (aM_0 g a M) rfl ⟨rfl, rfl, Nat.le_of_ble_eq_true rfl, Nat.le_of_ble_eq_true rfl⟩ rfl hl.1 rfl (Nat.le_of_ble_eq_true rfl) dX12_tell_2 ⟨Nat.le_of_ble_eq_true rfl, Nat.le_of_ble_eq_true rfl⟩) ?_
  refine lv_if_ne (tgt := 10) hx hb dX12_tell_5 (by decide) (fun c_2 => ?_) (fun c_2 => ?_)
  · have hf := ifn c_2 hf
    refine lv_aload_n hx hb dX12_tell_10 rfl (lv_at hl 0 rfl) ?_
    refine fg_X12_22 C hP dX12_tell_11 ?_
    refine lv_iload_n hx hb dX12_tell_14 rfl (lv_at hl 1 rfl) ?_
    obtain ⟨h_3, hf⟩ := ifs hf
    refine va_iald hx hb hK hP 5 0 (aM_5 g a M) rfl h_3 dX12_tell_15 ?_
    refine lv_topi (fun z4 ez4 => ?_)
    have hf := nmr ez4 hf
    refine lv_istore_n (lv' := [(2, .int z4), (0, .ref (a 0)), (1, .int x1)]) hx hb dX12_tell_16 rfl hl (by decide) rfl (fun ls hl => ?_)
    refine lv_aload_n hx hb dX12_tell_17 rfl (lv_at hl 1 rfl) ?_
    refine fg_X12_19 C hP dX12_tell_18 ?_
    refine lv_iload_n hx hb dX12_tell_21 rfl (lv_at hl 2 rfl) ?_
    refine va_iald hx hb hK hP 4 0 (aM_4 g a M) rfl h_3 dX12_tell_22 ?_
    refine lv_topi (fun z5 ez5 => ?_)
    have hf := nmr ez5 hf
    by_cases c_6 : z5 = 1
    · have hf := ifp c_6 hf
      refine lv_lookup (tgt := 48) (off := 25) hx hb dX12_tell_23 (by decide) (by rw [c_6]; rfl) (by decide) ?_
      refine lv_aload_n hx hb dX12_tell_48 rfl (lv_at hl 1 rfl) ?_
      refine lv_iconst (v := 2) hx hb dX12_tell_49 (by decide) ?_
      obtain ⟨M7, e_7, hf⟩ := bns hf
      refine kWv (rV (rest := []) C (c_X12_begins l D g a hJ M 2 M7 e_7) ok_X12_begins wd_1030 hP 0 (aM_0 g a M) rfl ⟨rfl, rfl, Nat.le_of_ble_eq_true rfl, Nat.le_of_ble_eq_true rfl⟩ rfl hl.1 rfl (Nat.le_of_ble_eq_true rfl) dX12_tell_50 ⟨Nat.le_of_ble_eq_true rfl, Nat.le_of_ble_eq_true rfl⟩) hS (fun H locs hP hS => ?_)
      refine lv_aload_n hx hb dX12_tell_53 rfl (lv_at hl 1 rfl) ?_
      refine lv_iconst (v := 1) hx hb dX12_tell_54 (by decide) ?_
      obtain ⟨M8, e_8, hf⟩ := bns hf
      refine kWv (rV (rest := []) C (c_X12_begins l D g a hJ M7 1 M8 e_8) ok_X12_begins wd_1030 hP 0 (aM_0 g a M7) rfl ⟨rfl, rfl, Nat.le_of_ble_eq_true rfl, Nat.le_of_ble_eq_true rfl⟩ rfl hl.1 rfl (Nat.le_of_ble_eq_true rfl) dX12_tell_55 ⟨Nat.le_of_ble_eq_true rfl, Nat.le_of_ble_eq_true rfl⟩) hS (fun H locs hP hS => ?_)
      refine lv_iload_n hx hb dX12_tell_58 rfl (lv_at hl 0 rfl) ?_
      refine lv_bipush (v := 100) hx hb dX12_tell_59 (by decide) ?_
      refine lv_iadd hx hb dX12_tell_61 ?_
      obtain ⟨rfl, rfl⟩ := Prod.mk.inj (Option.some.inj hf)
      exact retW C hP hS dX12_tell_62
    · have hf := ifn c_6 hf
      by_cases c_9 : z5 = 2
      · have hf := ifp c_9 hf
        refine lv_lookup (tgt := 63) (off := 40) hx hb dX12_tell_23 (by decide) (by rw [c_9]; rfl) (by decide) ?_
        refine lv_aload_n hx hb dX12_tell_63 rfl (lv_at hl 1 rfl) ?_
        refine lv_iconst (v := 3) hx hb dX12_tell_64 (by decide) ?_
        obtain ⟨M10, e_10, hf⟩ := bns hf
        refine kWv (rV (rest := []) C (c_X12_begins l D g a hJ M 3 M10 e_10) ok_X12_begins wd_1030 hP 0 (aM_0 g a M) rfl ⟨rfl, rfl, Nat.le_of_ble_eq_true rfl, Nat.le_of_ble_eq_true rfl⟩ rfl hl.1 rfl (Nat.le_of_ble_eq_true rfl) dX12_tell_65 ⟨Nat.le_of_ble_eq_true rfl, Nat.le_of_ble_eq_true rfl⟩) hS (fun H locs hP hS => ?_)
        refine lv_aload_n hx hb dX12_tell_68 rfl (lv_at hl 1 rfl) ?_
        refine lv_iconst (v := 2) hx hb dX12_tell_69 (by decide) ?_
        obtain ⟨M11, e_11, hf⟩ := bns hf
        refine kWv (rV (rest := []) C (c_X12_begins l D g a hJ M10 2 M11 e_11) ok_X12_begins wd_1030 hP 0 (aM_0 g a M10) rfl ⟨rfl, rfl, Nat.le_of_ble_eq_true rfl, Nat.le_of_ble_eq_true rfl⟩ rfl hl.1 rfl (Nat.le_of_ble_eq_true rfl) dX12_tell_70 ⟨Nat.le_of_ble_eq_true rfl, Nat.le_of_ble_eq_true rfl⟩) hS (fun H locs hP hS => ?_)
        refine lv_aload_n hx hb dX12_tell_73 rfl (lv_at hl 1 rfl) ?_
        refine lv_iconst (v := 1) hx hb dX12_tell_74 (by decide) ?_
        obtain ⟨M12, e_12, hf⟩ := bns hf
        refine kWv (rV (rest := []) C (c_X12_begins l D g a hJ M11 1 M12 e_12) ok_X12_begins wd_1030 hP 0 (aM_0 g a M11) rfl ⟨rfl, rfl, Nat.le_of_ble_eq_true rfl, Nat.le_of_ble_eq_true rfl⟩ rfl hl.1 rfl (Nat.le_of_ble_eq_true rfl) dX12_tell_75 ⟨Nat.le_of_ble_eq_true rfl, Nat.le_of_ble_eq_true rfl⟩) hS (fun H locs hP hS => ?_)
        refine lv_aload_n hx hb dX12_tell_78 rfl (lv_at hl 1 rfl) ?_
        refine lv_iconst (v := 1) hx hb dX12_tell_79 (by decide) ?_
        obtain ⟨M13, e_13, hf⟩ := bns hf
        refine kWv (rV (rest := []) C (c_X12_begins l D g a hJ M12 1 M13 e_13) ok_X12_begins wd_1030 hP 0 (aM_0 g a M12) rfl ⟨rfl, rfl, Nat.le_of_ble_eq_true rfl, Nat.le_of_ble_eq_true rfl⟩ rfl hl.1 rfl (Nat.le_of_ble_eq_true rfl) dX12_tell_80 ⟨Nat.le_of_ble_eq_true rfl, Nat.le_of_ble_eq_true rfl⟩) hS (fun H locs hP hS => ?_)
        refine lv_iconst (v := 2) hx hb dX12_tell_83 (by decide) ?_
        refine lv_iload_n hx hb dX12_tell_84 rfl (lv_at hl 0 rfl) ?_
        refine lv_imul hx hb dX12_tell_85 ?_
        refine lv_bipush (v := 100) hx hb dX12_tell_86 (by decide) ?_
        refine lv_iadd hx hb dX12_tell_88 ?_
        obtain ⟨rfl, rfl⟩ := Prod.mk.inj (Option.some.inj hf)
        exact retW C hP hS dX12_tell_89
      · have hf := ifn c_9 hf
        refine lv_lookup (tgt := 90) (off := 67) hx hb dX12_tell_23 (by decide) (by have q0 : ¬ 1 = Int32.toInt z5 := fun e => i32ne c_6 e.symm; have q1 : ¬ 2 = Int32.toInt z5 := fun e => i32ne c_9 e.symm; simp [Op.lookupswitch.offset, q0, q1]) (by decide) ?_
        refine lv_aload_n hx hb dX12_tell_90 rfl (lv_at hl 1 rfl) ?_
        refine lv_iconst (v := 1) hx hb dX12_tell_91 (by decide) ?_
        obtain ⟨M14, e_14, hf⟩ := bns hf
        refine kWv (rV (rest := []) C (c_X12_begins l D g a hJ M 1 M14 e_14) ok_X12_begins wd_1030 hP 0 (aM_0 g a M) rfl ⟨rfl, rfl, Nat.le_of_ble_eq_true rfl, Nat.le_of_ble_eq_true rfl⟩ rfl hl.1 rfl (Nat.le_of_ble_eq_true rfl) dX12_tell_92 ⟨Nat.le_of_ble_eq_true rfl, Nat.le_of_ble_eq_true rfl⟩) hS (fun H locs hP hS => ?_)
        refine lv_iload_n hx hb dX12_tell_95 rfl (lv_at hl 0 rfl) ?_
        obtain ⟨rfl, rfl⟩ := Prod.mk.inj (Option.some.inj hf)
        exact retW C hP hS dX12_tell_96
  · have hf := ifp c_2 hf
    refine lv_iconst (v := (-1)) hx hb dX12_tell_8 (by decide) ?_
    obtain ⟨rfl, rfl⟩ := Prod.mk.inj (Option.some.inj hf)
    exact retW C hP hS dX12_tell_9
set_option maxHeartbeats 4000000 in
set_option maxRecDepth 100000 in
theorem c_X12_tread (l : Launch) (D : va_G) (g : Nat → ClassId) (a : Nat → Nat) (hJ : Inj a 18) (M : Mem) (x1 : Int32) (r : Int32) (M' : Mem) (hf : f_X12_tread M x1 = some (r, M')) : Met l yX12_tread (cW yX12_tread cX12_tread 2 (some .int)) (rmv 2 41) (Pw D (tyL g) (wM g a M) [.ref (a 0), .int x1]) (WrQ D (wM g a M') (inA a 18) (.int r)) 0 0 (inA a 18) := by
  unfold f_X12_tread at hf
  refine met_inW (A := (inA a 18)) (by decide) (Nat.le_of_ble_eq_true rfl) ?_
  intro p e s m args below meth c ls H locs C hP hS hl
  have C : Cx p s m args meth c cX12_tread 2 (some .int) RX12 D (tyL g) := C
  obtain ⟨hx, hb, hr, hml, hown, ht, hlocks, hK, hN⟩ := id C
  have hl : lv_has ls 2 [(0, .ref (a 0)), (1, .int x1)] := hl
  refine lv_aload_n hx hb dX12_tread_0 rfl (lv_at hl 0 rfl) ?_
  refine lv_iload_n hx hb dX12_tread_1 rfl (lv_at hl 1 rfl) ?_
  obtain ⟨r1, e_1, hf⟩ := bns hf
  refine kR (rV (rest := []) C (c_X12_isStone l D g a M x1 r1 e_1) ok_X12_isStone wd_850 hP 0 (aM_0 g a M) rfl ⟨rfl, rfl, Nat.le_of_ble_eq_true rfl, Nat.le_of_ble_eq_true rfl⟩ rfl hl.1 rfl (Nat.le_of_ble_eq_true rfl) dX12_tread_2 ⟨Nat.le_of_ble_eq_true rfl, Nat.le_of_ble_eq_true rfl⟩) ?_
  refine lv_if_ne (tgt := 10) hx hb dX12_tread_5 (by decide) (fun c_2 => ?_) (fun c_2 => ?_)
  · have hf := ifn c_2 hf
    refine lv_aload_n hx hb dX12_tread_10 rfl (lv_at hl 0 rfl) ?_
    refine lv_aload_n hx hb dX12_tread_11 rfl (lv_at hl 0 rfl) ?_
    refine fg_X12_19 C hP dX12_tread_12 ?_
    refine lv_iload_n hx hb dX12_tread_15 rfl (lv_at hl 1 rfl) ?_
    obtain ⟨h_3, hf⟩ := ifs hf
    refine va_iald hx hb hK hP 4 0 (aM_4 g a M) rfl h_3 dX12_tread_16 ?_
    refine lv_iconst (v := 2) hx hb dX12_tread_17 (by decide) ?_
    refine lv_icmp_ne (tgt := 25) hx hb dX12_tread_18 (by decide) (fun c_4 => ?_) (fun c_4 => ?_)
    · have hf := ifn c_4 hf
      refine lv_iconst (v := 4) hx hb dX12_tread_25 (by decide) ?_
      obtain ⟨M5, e_5, hf⟩ := bns hf
      refine kWv (rV (rest := []) C (c_X12_begins l D g a hJ M 4 M5 e_5) ok_X12_begins wd_1030 hP 0 (aM_0 g a M) rfl ⟨rfl, rfl, Nat.le_of_ble_eq_true rfl, Nat.le_of_ble_eq_true rfl⟩ rfl hl.1 rfl (Nat.le_of_ble_eq_true rfl) dX12_tread_26 ⟨Nat.le_of_ble_eq_true rfl, Nat.le_of_ble_eq_true rfl⟩) hS (fun H locs hP hS => ?_)
      refine lv_aload_n hx hb dX12_tread_29 rfl (lv_at hl 0 rfl) ?_
      refine fg_X12_19 C hP dX12_tread_30 ?_
      refine lv_iload_n hx hb dX12_tread_33 rfl (lv_at hl 1 rfl) ?_
      refine va_iald hx hb hK hP 4 0 (aM_4 g a M5) rfl h_3 dX12_tread_34 ?_
      refine lv_iconst (v := 2) hx hb dX12_tread_35 (by decide) ?_
      refine lv_icmp_ne (tgt := 44) hx hb dX12_tread_36 (by decide) (fun c_6 => ?_) (fun c_6 => ?_)
      · have hf := ifn c_6 hf
        refine lv_iload_n hx hb dX12_tread_44 rfl (lv_at hl 1 rfl) ?_
        obtain ⟨rfl, rfl⟩ := Prod.mk.inj (Option.some.inj hf)
        exact retW C hP hS dX12_tread_45
      · have hf := ifp c_6 hf
        refine lv_bipush (v := 50) hx hb dX12_tread_39 (by decide) ?_
        refine lv_goto (tgt := 45) hx hb dX12_tread_41 (by decide) ?_
        obtain ⟨rfl, rfl⟩ := Prod.mk.inj (Option.some.inj hf)
        exact retW C hP hS dX12_tread_45
    · have hf := ifp c_4 hf
      refine lv_iconst (v := 5) hx hb dX12_tread_21 (by decide) ?_
      refine lv_goto (tgt := 26) hx hb dX12_tread_22 (by decide) ?_
      obtain ⟨M7, e_7, hf⟩ := bns hf
      refine kWv (rV (rest := []) C (c_X12_begins l D g a hJ M 5 M7 e_7) ok_X12_begins wd_1030 hP 0 (aM_0 g a M) rfl ⟨rfl, rfl, Nat.le_of_ble_eq_true rfl, Nat.le_of_ble_eq_true rfl⟩ rfl hl.1 rfl (Nat.le_of_ble_eq_true rfl) dX12_tread_26 ⟨Nat.le_of_ble_eq_true rfl, Nat.le_of_ble_eq_true rfl⟩) hS (fun H locs hP hS => ?_)
      refine lv_aload_n hx hb dX12_tread_29 rfl (lv_at hl 0 rfl) ?_
      refine fg_X12_19 C hP dX12_tread_30 ?_
      refine lv_iload_n hx hb dX12_tread_33 rfl (lv_at hl 1 rfl) ?_
      refine va_iald hx hb hK hP 4 0 (aM_4 g a M7) rfl h_3 dX12_tread_34 ?_
      refine lv_iconst (v := 2) hx hb dX12_tread_35 (by decide) ?_
      refine lv_icmp_ne (tgt := 44) hx hb dX12_tread_36 (by decide) (fun c_8 => ?_) (fun c_8 => ?_)
      · have hf := ifn c_8 hf
        refine lv_iload_n hx hb dX12_tread_44 rfl (lv_at hl 1 rfl) ?_
        obtain ⟨rfl, rfl⟩ := Prod.mk.inj (Option.some.inj hf)
        exact retW C hP hS dX12_tread_45
      · have hf := ifp c_8 hf
        refine lv_bipush (v := 50) hx hb dX12_tread_39 (by decide) ?_
        refine lv_goto (tgt := 45) hx hb dX12_tread_41 (by decide) ?_
        obtain ⟨rfl, rfl⟩ := Prod.mk.inj (Option.some.inj hf)
        exact retW C hP hS dX12_tread_45
  · have hf := ifp c_2 hf
    refine lv_iconst (v := (-1)) hx hb dX12_tread_8 (by decide) ?_
    obtain ⟨rfl, rfl⟩ := Prod.mk.inj (Option.some.inj hf)
    exact retW C hP hS dX12_tread_9
set_option maxHeartbeats 4000000 in
set_option maxRecDepth 100000 in
theorem c_X12_as (l : Launch) (D : va_G) (g : Nat → ClassId) (a : Nat → Nat) (hJ : Inj a 18) (M : Mem) (x1 : Int32) (x2 : Int32) (r : Int32) (M' : Mem) (hf : f_X12_as M x1 x2 = some (r, M')) : Met l yX12_as (cW yX12_as cX12_as 3 (some .int)) (rmv 2 41) (Pw D (tyL g) (wM g a M) [.ref (a 0), .int x1, .int x2]) (WrQ D (wM g a M') (inA a 18) (.int r)) 0 0 (inA a 18) := by
  unfold f_X12_as at hf
  refine met_inW (A := (inA a 18)) (by decide) (Nat.le_of_ble_eq_true rfl) ?_
  intro p e s m args below meth c ls H locs C hP hS hl
  have C : Cx p s m args meth c cX12_as 3 (some .int) RX12 D (tyL g) := C
  obtain ⟨hx, hb, hr, hml, hown, ht, hlocks, hK, hN⟩ := id C
  have hl : lv_has ls 3 [(0, .ref (a 0)), (1, .int x1), (2, .int x2)] := hl
  refine lv_aload_n hx hb dX12_as_0 rfl (lv_at hl 0 rfl) ?_
  refine lv_iconst (v := 0) hx hb dX12_as_1 (by decide) ?_
  refine fp_X12_62 C hP (wM_D hJ) hS dX12_as_2 (fun H locs hP hS => ?_)
  obtain ⟨M1, eM1, hf⟩ := nms hf
  have hP : va_P D clL (wM g a M1) H := by rw [eM1]; exact hP
  refine lv_aload_n hx hb dX12_as_5 rfl (lv_at hl 0 rfl) ?_
  refine lv_iload_n hx hb dX12_as_6 rfl (lv_at hl 1 rfl) ?_
  obtain ⟨r2, e_2, hf⟩ := bns hf
  refine kR (rV (rest := []) C (c_X12_isStone l D g a M1 x1 r2 e_2) ok_X12_isStone wd_850 hP 0 (aM_0 g a M1) rfl ⟨rfl, rfl, Nat.le_of_ble_eq_true rfl, Nat.le_of_ble_eq_true rfl⟩ rfl hl.1 rfl (Nat.le_of_ble_eq_true rfl) dX12_as_7 ⟨Nat.le_of_ble_eq_true rfl, Nat.le_of_ble_eq_true rfl⟩) ?_
  refine lv_if_ne (tgt := 15) hx hb dX12_as_10 (by decide) (fun c_3 => ?_) (fun c_3 => ?_)
  · have hf := ifn c_3 hf
    refine lv_iload_n hx hb dX12_as_15 rfl (lv_at hl 2 rfl) ?_
    refine lv_iconst (v := 0) hx hb dX12_as_16 (by decide) ?_
    refine lv_iconst (v := 2) hx hb dX12_as_17 (by decide) ?_
    obtain ⟨r4, e_4, hf⟩ := bns hf
    refine kR (rS (rest := []) C (c_X12_within l D (tyL g) (wM g a M1) x2 0 2 r4 e_4) ok_X12_within wd_816 hP ⟨rfl, rfl, Nat.le_of_ble_eq_true rfl, Nat.le_of_ble_eq_true rfl⟩ rfl hl.1 rfl (Nat.le_of_ble_eq_true rfl) dX12_as_18 ⟨Nat.le_of_ble_eq_true rfl, Nat.le_of_ble_eq_true rfl⟩) ?_
    refine lv_if_ne (tgt := 27) hx hb dX12_as_21 (by decide) (fun c_5 => ?_) (fun c_5 => ?_)
    · have hf := ifn c_5 hf
      refine lv_aload_n hx hb dX12_as_27 rfl (lv_at hl 0 rfl) ?_
      refine fg_X12_19 C hP dX12_as_28 ?_
      refine lv_iload_n hx hb dX12_as_31 rfl (lv_at hl 1 rfl) ?_
      obtain ⟨h_6, hf⟩ := ifs hf
      refine va_iald hx hb hK hP 4 0 (aM_4 g a M1) rfl h_6 dX12_as_32 ?_
      refine lv_iload_n hx hb dX12_as_33 rfl (lv_at hl 2 rfl) ?_
      refine lv_icmp_lt (tgt := 41) hx hb dX12_as_34 (by decide) (fun c_7 => ?_) (fun c_7 => ?_)
      · have hf := ifp c_7 hf
        refine lv_aload_n hx hb dX12_as_41 rfl (lv_at hl 0 rfl) ?_
        refine lv_iconst (v := 2) hx hb dX12_as_42 (by decide) ?_
        obtain ⟨q8, e_8, hf⟩ := bns hf
        refine kW (rV (rest := []) C (c_X12_fails l D g a hJ M1 2 q8.1 q8.2 e_8) ok_X12_fails wd_826 hP 0 (aM_0 g a M1) rfl ⟨rfl, rfl, Nat.le_of_ble_eq_true rfl, Nat.le_of_ble_eq_true rfl⟩ rfl hl.1 rfl (Nat.le_of_ble_eq_true rfl) dX12_as_43 ⟨Nat.le_of_ble_eq_true rfl, Nat.le_of_ble_eq_true rfl⟩) hS (fun H locs hP hS => ?_)
        obtain ⟨rfl, rfl⟩ := Prod.mk.inj (Option.some.inj hf)
        exact retW C hP hS dX12_as_46
      · have hf := ifn c_7 hf
        refine lv_iconst (v := 1) hx hb dX12_as_37 (by decide) ?_
        refine lv_goto (tgt := 46) hx hb dX12_as_38 (by decide) ?_
        obtain ⟨rfl, rfl⟩ := Prod.mk.inj (Option.some.inj hf)
        exact retW C hP hS dX12_as_46
    · have hf := ifp c_5 hf
      refine lv_bipush (v := (-2)) hx hb dX12_as_24 (by decide) ?_
      obtain ⟨rfl, rfl⟩ := Prod.mk.inj (Option.some.inj hf)
      exact retW C hP hS dX12_as_26
  · have hf := ifp c_3 hf
    refine lv_iconst (v := (-1)) hx hb dX12_as_13 (by decide) ?_
    obtain ⟨rfl, rfl⟩ := Prod.mk.inj (Option.some.inj hf)
    exact retW C hP hS dX12_as_14
set_option maxHeartbeats 4000000 in
set_option maxRecDepth 100000 in
theorem c_X12_trace (l : Launch) (D : va_G) (g : Nat → ClassId) (a : Nat → Nat) (M : Mem) (r : Int32) (hf : f_X12_trace M = some r) : Met l yX12_trace (cW yX12_trace cX12_trace 1 (some .int)) (rmv 0 0) (Pw D (tyL g) (wM g a M) [.ref (a 0)]) (RdQ (.int r)) 0 0 nof := by
  unfold f_X12_trace at hf
  refine met_in (by decide) (Nat.le_of_ble_eq_true rfl) ?_
  intro p e s m args below meth c ls C hP hl
  have C : Cx p s m args meth c cX12_trace 1 (some .int) RX12 D (tyL g) := C
  obtain ⟨hx, hb, hr, hml, hown, ht, hlocks, hK, hN⟩ := id C
  have hl : lv_has ls 1 [(0, .ref (a 0))] := hl
  refine lv_aload_n hx hb dX12_trace_0 rfl (lv_at hl 0 rfl) ?_
  refine fg_X12_186 C hP dX12_trace_1 ?_
  obtain rfl := Option.some.inj hf
  exact retR C dX12_trace_4
set_option maxHeartbeats 4000000 in
set_option maxRecDepth 100000 in
theorem c_X12_fault (l : Launch) (D : va_G) (g : Nat → ClassId) (a : Nat → Nat) (M : Mem) (r : Int32) (hf : f_X12_fault M = some r) : Met l yX12_fault (cW yX12_fault cX12_fault 1 (some .int)) (rmv 0 0) (Pw D (tyL g) (wM g a M) [.ref (a 0)]) (RdQ (.int r)) 0 0 nof := by
  unfold f_X12_fault at hf
  refine met_in (by decide) (Nat.le_of_ble_eq_true rfl) ?_
  intro p e s m args below meth c ls C hP hl
  have C : Cx p s m args meth c cX12_fault 1 (some .int) RX12 D (tyL g) := C
  obtain ⟨hx, hb, hr, hml, hown, ht, hlocks, hK, hN⟩ := id C
  have hl : lv_has ls 1 [(0, .ref (a 0))] := hl
  refine lv_aload_n hx hb dX12_fault_0 rfl (lv_at hl 0 rfl) ?_
  refine fg_X12_62 C hP dX12_fault_1 ?_
  obtain rfl := Option.some.inj hf
  exact retR C dX12_fault_4
set_option maxHeartbeats 4000000 in
set_option maxRecDepth 100000 in
theorem c_X12_many (l : Launch) (D : va_G) (g : Nat → ClassId) (a : Nat → Nat) (M : Mem) (x1 : Int32) (r : Int32) (hf : f_X12_many M x1 = some r) : Met l yX12_many (cW yX12_many cX12_many 2 (some .int)) (rmv 1 20) (Pw D (tyL g) (wM g a M) [.ref (a 0), .int x1]) (RdQ (.int r)) 0 0 nof := by
  unfold f_X12_many at hf
  refine met_in (by decide) (Nat.le_of_ble_eq_true rfl) ?_
  intro p e s m args below meth c ls C hP hl
  have C : Cx p s m args meth c cX12_many 2 (some .int) RX12 D (tyL g) := C
  obtain ⟨hx, hb, hr, hml, hown, ht, hlocks, hK, hN⟩ := id C
  have hl : lv_has ls 2 [(0, .ref (a 0)), (1, .int x1)] := hl
  refine lv_iload_n hx hb dX12_many_0 rfl (lv_at hl 1 rfl) ?_
  refine lv_if_ne (tgt := 11) hx hb dX12_many_1 (by decide) (fun c_1 => ?_) (fun c_1 => ?_)
  · have hf := ifn c_1 hf
    refine lv_iload_n hx hb dX12_many_11 rfl (lv_at hl 1 rfl) ?_
    refine lv_iconst (v := 1) hx hb dX12_many_12 (by decide) ?_
    refine lv_icmp_ne (tgt := 23) hx hb dX12_many_13 (by decide) (fun c_2 => ?_) (fun c_2 => ?_)
    · have hf := ifn c_2 hf
      refine lv_iload_n hx hb dX12_many_23 rfl (lv_at hl 1 rfl) ?_
      refine lv_iconst (v := 2) hx hb dX12_many_24 (by decide) ?_
      refine lv_icmp_ne (tgt := 35) hx hb dX12_many_25 (by decide) (fun c_3 => ?_) (fun c_3 => ?_)
      · have hf := ifn c_3 hf
        refine lv_bipush (v := (-2)) hx hb dX12_many_35 (by decide) ?_
        obtain rfl := Option.some.inj hf
        exact retR C dX12_many_37
      · have hf := ifp c_3 hf
        refine lv_aload_n hx hb dX12_many_28 rfl (lv_at hl 0 rfl) ?_
        refine fg_X12_109 C hP dX12_many_29 ?_
        refine lv_goto (tgt := 37) hx hb dX12_many_32 (by decide) ?_
        obtain rfl := Option.some.inj hf
        exact retR C dX12_many_37
    · have hf := ifp c_2 hf
      refine lv_aload_n hx hb dX12_many_16 rfl (lv_at hl 0 rfl) ?_
      refine fg_X12_75 C hP dX12_many_17 ?_
      refine lv_goto (tgt := 37) hx hb dX12_many_20 (by decide) ?_
      obtain rfl := Option.some.inj hf
      exact retR C dX12_many_37
  · have hf := ifp c_1 hf
    refine lv_aload_n hx hb dX12_many_4 rfl (lv_at hl 0 rfl) ?_
    obtain ⟨r4, e_4, hf⟩ := bns hf
    refine kR (rV (rest := []) C (c_X12_all l D g a M r4 e_4) ok_X12_all wd_842 hP 0 (aM_0 g a M) rfl ⟨rfl, rfl, Nat.le_of_ble_eq_true rfl, Nat.le_of_ble_eq_true rfl⟩ rfl hl.1 rfl (Nat.le_of_ble_eq_true rfl) dX12_many_5 ⟨Nat.le_of_ble_eq_true rfl, Nat.le_of_ble_eq_true rfl⟩) ?_
    refine lv_goto (tgt := 37) hx hb dX12_many_8 (by decide) ?_
    obtain rfl := Option.some.inj hf
    exact retR C dX12_many_37
