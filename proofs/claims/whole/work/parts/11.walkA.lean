set_option maxHeartbeats 4000000 in
set_option maxRecDepth 100000 in
theorem c_X11_isWithin (l : Launch) (D : va_G) (tys : List (ClassId × FieldType)) (w : va_W) (x0 : Int32) (x1 : Int32) (x2 : Int32) (r : Int32) (hf : f_X11_isWithin x0 x1 x2 = some r) : Met l yX11_isWithin (cW yX11_isWithin cX11_isWithin 3 (some .boolean)) (rmv 0 0) (Pw D tys w [.int x0, .int x1, .int x2]) (RdQ (.int r)) 0 0 nof := by
  unfold f_X11_isWithin at hf
  refine met_in (by decide) (Nat.le_of_ble_eq_true rfl) ?_
  intro p e s m args below meth c ls C hP hl
  have C : Cx p s m args meth c cX11_isWithin 3 (some .boolean) RX11 D tys := C
  obtain ⟨hx, hb, hr, hml, hown, ht, hlocks, hK, hN⟩ := id C
  have hl : lv_has ls 3 [(0, .int x0), (1, .int x1), (2, .int x2)] := hl
  refine lv_iload_n hx hb dX11_isWithin_0 rfl (lv_at hl 0 rfl) ?_
  refine lv_iload_n hx hb dX11_isWithin_1 rfl (lv_at hl 1 rfl) ?_
  refine lv_icmp_lt (tgt := 14) hx hb dX11_isWithin_2 (by decide) (fun c_1 => ?_) (fun c_1 => ?_)
  · have hf := ifp c_1 hf
    refine lv_iconst (v := 0) hx hb dX11_isWithin_14 (by decide) ?_
    obtain rfl := Option.some.inj hf
    exact retRz C (Or.inl rfl) dX11_isWithin_15
  · have hf := ifn c_1 hf
    refine lv_iload_n hx hb dX11_isWithin_5 rfl (lv_at hl 0 rfl) ?_
    refine lv_iload_n hx hb dX11_isWithin_6 rfl (lv_at hl 2 rfl) ?_
    refine lv_icmp_gt (tgt := 14) hx hb dX11_isWithin_7 (by decide) (fun c_2 => ?_) (fun c_2 => ?_)
    · have hf := ifp c_2 hf
      refine lv_iconst (v := 0) hx hb dX11_isWithin_14 (by decide) ?_
      obtain rfl := Option.some.inj hf
      exact retRz C (Or.inl rfl) dX11_isWithin_15
    · have hf := ifn c_2 hf
      refine lv_iconst (v := 1) hx hb dX11_isWithin_10 (by decide) ?_
      refine lv_goto (tgt := 15) hx hb dX11_isWithin_11 (by decide) ?_
      obtain rfl := Option.some.inj hf
      exact retRz C (Or.inr rfl) dX11_isWithin_15
set_option maxHeartbeats 4000000 in
set_option maxRecDepth 100000 in
theorem c_X11_isSheet (l : Launch) (D : va_G) (tys : List (ClassId × FieldType)) (w : va_W) (x0 : Int32) (r : Int32) (hf : f_X11_isSheet x0 = some r) : Met l yX11_isSheet (cW yX11_isSheet cX11_isSheet 1 (some .boolean)) (rmv 1 22) (Pw D tys w [.int x0]) (RdQ (.int r)) 0 0 nof := by
  unfold f_X11_isSheet at hf
  refine met_in (by decide) (Nat.le_of_ble_eq_true rfl) ?_
  intro p e s m args below meth c ls C hP hl
  have C : Cx p s m args meth c cX11_isSheet 1 (some .boolean) RX11 D tys := C
  obtain ⟨hx, hb, hr, hml, hown, ht, hlocks, hK, hN⟩ := id C
  have hl : lv_has ls 1 [(0, .int x0)] := hl
  refine lv_iload_n hx hb dX11_isSheet_0 rfl (lv_at hl 0 rfl) ?_
  refine lv_iconst (v := 0) hx hb dX11_isSheet_1 (by decide) ?_
  refine lv_iconst (v := 3) hx hb dX11_isSheet_2 (by decide) ?_
  obtain ⟨r1, e_1, hf⟩ := bns hf
  refine kR (rS (rest := []) C (c_X11_isWithin l D tys w x0 0 3 r1 e_1) ok_X11_isWithin wd_265 hP ⟨rfl, rfl, Nat.le_of_ble_eq_true rfl, Nat.le_of_ble_eq_true rfl⟩ rfl hl.1 rfl (Nat.le_of_ble_eq_true rfl) dX11_isSheet_3 ⟨Nat.le_of_ble_eq_true rfl, Nat.le_of_ble_eq_true rfl⟩) ?_
  obtain ⟨h_2, hf⟩ := ifs hf
  obtain rfl := Option.some.inj hf
  exact retRz C h_2 dX11_isSheet_6
set_option maxHeartbeats 4000000 in
set_option maxRecDepth 100000 in
theorem c_X11_isSort (l : Launch) (D : va_G) (tys : List (ClassId × FieldType)) (w : va_W) (x0 : Int32) (r : Int32) (hf : f_X11_isSort x0 = some r) : Met l yX11_isSort (cW yX11_isSort cX11_isSort 1 (some .boolean)) (rmv 1 22) (Pw D tys w [.int x0]) (RdQ (.int r)) 0 0 nof := by
  unfold f_X11_isSort at hf
  refine met_in (by decide) (Nat.le_of_ble_eq_true rfl) ?_
  intro p e s m args below meth c ls C hP hl
  have C : Cx p s m args meth c cX11_isSort 1 (some .boolean) RX11 D tys := C
  obtain ⟨hx, hb, hr, hml, hown, ht, hlocks, hK, hN⟩ := id C
  have hl : lv_has ls 1 [(0, .int x0)] := hl
  refine lv_iload_n hx hb dX11_isSort_0 rfl (lv_at hl 0 rfl) ?_
  refine lv_iconst (v := 0) hx hb dX11_isSort_1 (by decide) ?_
  refine lv_iconst (v := 2) hx hb dX11_isSort_2 (by decide) ?_
  obtain ⟨r1, e_1, hf⟩ := bns hf
  refine kR (rS (rest := []) C (c_X11_isWithin l D tys w x0 0 2 r1 e_1) ok_X11_isWithin wd_265 hP ⟨rfl, rfl, Nat.le_of_ble_eq_true rfl, Nat.le_of_ble_eq_true rfl⟩ rfl hl.1 rfl (Nat.le_of_ble_eq_true rfl) dX11_isSort_3 ⟨Nat.le_of_ble_eq_true rfl, Nat.le_of_ble_eq_true rfl⟩) ?_
  obtain ⟨h_2, hf⟩ := ifs hf
  obtain rfl := Option.some.inj hf
  exact retRz C h_2 dX11_isSort_6
set_option maxHeartbeats 4000000 in
set_option maxRecDepth 100000 in
theorem c_X6_isNothing (l : Launch) (D : va_G) (g : Nat → ClassId) (a : Nat → Nat) (k : Nat) (hk : k < 4) (M : Mem) (r : Int32) (hf : f_X6_isNothing k M = some r) : Met l yX6_isNothing (cW yX6_isNothing cX6_isNothing 1 (some .boolean)) (rmv 0 0) (Pw D (tyL g) (wC g a M) [.ref (a (9 + k))]) (RdQ (.int r)) 0 0 nof := by
  unfold f_X6_isNothing at hf
  refine met_in (by decide) (Nat.le_of_ble_eq_true rfl) ?_
  intro p e s m args below meth c ls C hP hl
  have C : Cx p s m args meth c cX6_isNothing 1 (some .boolean) RX6 D (tyL g) := C
  obtain ⟨hx, hb, hr, hml, hown, ht, hlocks, hK, hN⟩ := id C
  have hl : lv_has ls 1 [(0, .ref (a (9 + k)))] := hl
  refine lv_aload_n hx hb dX6_isNothing_0 rfl (lv_at hl 0 rfl) ?_
  refine fg_X6_15 hk C hP dX6_isNothing_1 ?_
  refine lv_iconst (v := (-1)) hx hb dX6_isNothing_4 (by decide) ?_
  refine lv_icmp_ne (tgt := 12) hx hb dX6_isNothing_5 (by decide) (fun c_1 => ?_) (fun c_1 => ?_)
  · have hf := ifn c_1 hf
    refine lv_iconst (v := 0) hx hb dX6_isNothing_12 (by decide) ?_
    obtain rfl := Option.some.inj hf
    exact retRz C (Or.inl rfl) dX6_isNothing_13
  · have hf := ifp c_1 hf
    refine lv_iconst (v := 1) hx hb dX6_isNothing_8 (by decide) ?_
    refine lv_goto (tgt := 13) hx hb dX6_isNothing_9 (by decide) ?_
    obtain rfl := Option.some.inj hf
    exact retRz C (Or.inr rfl) dX6_isNothing_13
set_option maxHeartbeats 4000000 in
set_option maxRecDepth 100000 in
theorem c_X6_faultAs (l : Launch) (D : va_G) (g : Nat → ClassId) (a : Nat → Nat) (k : Nat) (hk : k < 4) (M : Mem) (x1 : Int32) (r : Int32) (hf : f_X6_faultAs k M x1 = some r) : Met l yX6_faultAs (cW yX6_faultAs cX6_faultAs 2 (some .int)) (rmv 1 20) (Pw D (tyL g) (wC g a M) [.ref (a (9 + k)), .int x1]) (RdQ (.int r)) 0 0 nof := by
  unfold f_X6_faultAs at hf
  refine met_in (by decide) (Nat.le_of_ble_eq_true rfl) ?_
  intro p e s m args below meth c ls C hP hl
  have C : Cx p s m args meth c cX6_faultAs 2 (some .int) RX6 D (tyL g) := C
  obtain ⟨hx, hb, hr, hml, hown, ht, hlocks, hK, hN⟩ := id C
  have hl : lv_has ls 2 [(0, .ref (a (9 + k))), (1, .int x1)] := hl
  refine lv_aload_n hx hb dX6_faultAs_0 rfl (lv_at hl 0 rfl) ?_
  obtain ⟨r1, e_1, hf⟩ := bns hf
  refine kR (rV (rest := []) C (c_X6_isNothing l D g a k hk M r1 e_1) ok_X6_isNothing wd_275 hP (9 + k) (aC_S g a M hk) rfl ⟨rfl, rfl, Nat.le_of_ble_eq_true rfl, Nat.le_of_ble_eq_true rfl⟩ rfl hl.1 rfl (Nat.le_of_ble_eq_true rfl) dX6_faultAs_1 ⟨Nat.le_of_ble_eq_true rfl, Nat.le_of_ble_eq_true rfl⟩) ?_
  refine lv_if_eq (tgt := 9) hx hb dX6_faultAs_4 (by decide) (fun c_2 => ?_) (fun c_2 => ?_)
  · have hf := ifp c_2 hf
    refine lv_aload_n hx hb dX6_faultAs_9 rfl (lv_at hl 0 rfl) ?_
    refine fg_X6_15 hk C hP dX6_faultAs_10 ?_
    refine lv_iload_n hx hb dX6_faultAs_13 rfl (lv_at hl 1 rfl) ?_
    refine lv_icmp_ne (tgt := 21) hx hb dX6_faultAs_14 (by decide) (fun c_3 => ?_) (fun c_3 => ?_)
    · have hf := ifn c_3 hf
      refine lv_iconst (v := 2) hx hb dX6_faultAs_21 (by decide) ?_
      obtain rfl := Option.some.inj hf
      exact retR C dX6_faultAs_22
    · have hf := ifp c_3 hf
      refine lv_iconst (v := 0) hx hb dX6_faultAs_17 (by decide) ?_
      refine lv_goto (tgt := 22) hx hb dX6_faultAs_18 (by decide) ?_
      obtain rfl := Option.some.inj hf
      exact retR C dX6_faultAs_22
  · have hf := ifn c_2 hf
    refine lv_iconst (v := 1) hx hb dX6_faultAs_7 (by decide) ?_
    obtain rfl := Option.some.inj hf
    exact retR C dX6_faultAs_8
set_option maxHeartbeats 4000000 in
set_option maxRecDepth 100000 in
theorem c_X6_hasCells (l : Launch) (D : va_G) (g : Nat → ClassId) (a : Nat → Nat) (k : Nat) (hk : k < 4) (M : Mem) (x1 : Int32) (x2 : Int32) (r : Int32) (hf : f_X6_hasCells k M x1 x2 = some r) : Met l yX6_hasCells (cW yX6_hasCells cX6_hasCells 3 (some .boolean)) (rmv 0 0) (Pw D (tyL g) (wC g a M) [.ref (a (9 + k)), .int x1, .int x2]) (RdQ (.int r)) 0 0 nof := by
  unfold f_X6_hasCells at hf
  refine met_in (by decide) (Nat.le_of_ble_eq_true rfl) ?_
  intro p e s m args below meth c ls C hP hl
  have C : Cx p s m args meth c cX6_hasCells 3 (some .boolean) RX6 D (tyL g) := C
  obtain ⟨hx, hb, hr, hml, hown, ht, hlocks, hK, hN⟩ := id C
  have hl : lv_has ls 3 [(0, .ref (a (9 + k))), (1, .int x1), (2, .int x2)] := hl
  refine lv_iload_n hx hb dX6_hasCells_0 rfl (lv_at hl 1 rfl) ?_
  refine lv_if_lt (tgt := 26) hx hb dX6_hasCells_1 (by decide) (fun c_1 => ?_) (fun c_1 => ?_)
  · have hf := ifp c_1 hf
    refine lv_iconst (v := 0) hx hb dX6_hasCells_26 (by decide) ?_
    obtain rfl := Option.some.inj hf
    exact retRz C (Or.inl rfl) dX6_hasCells_27
  · have hf := ifn c_1 hf
    refine lv_iload_n hx hb dX6_hasCells_4 rfl (lv_at hl 1 rfl) ?_
    refine lv_aload_n hx hb dX6_hasCells_5 rfl (lv_at hl 0 rfl) ?_
    refine fg_X6_23 hk C hP dX6_hasCells_6 ?_
    refine lv_icmp_gt (tgt := 26) hx hb dX6_hasCells_9 (by decide) (fun c_2 => ?_) (fun c_2 => ?_)
    · have hf := ifp c_2 hf
      refine lv_iconst (v := 0) hx hb dX6_hasCells_26 (by decide) ?_
      obtain rfl := Option.some.inj hf
      exact retRz C (Or.inl rfl) dX6_hasCells_27
    · have hf := ifn c_2 hf
      refine lv_iload_n hx hb dX6_hasCells_12 rfl (lv_at hl 2 rfl) ?_
      refine lv_aload_n hx hb dX6_hasCells_13 rfl (lv_at hl 0 rfl) ?_
      refine fg_X6_23 hk C hP dX6_hasCells_14 ?_
      refine lv_iload_n hx hb dX6_hasCells_17 rfl (lv_at hl 1 rfl) ?_
      refine lv_isub hx hb dX6_hasCells_18 ?_
      refine lv_icmp_gt (tgt := 26) hx hb dX6_hasCells_19 (by decide) (fun c_3 => ?_) (fun c_3 => ?_)
      · have hf := ifp c_3 hf
        refine lv_iconst (v := 0) hx hb dX6_hasCells_26 (by decide) ?_
        obtain rfl := Option.some.inj hf
        exact retRz C (Or.inl rfl) dX6_hasCells_27
      · have hf := ifn c_3 hf
        refine lv_iconst (v := 1) hx hb dX6_hasCells_22 (by decide) ?_
        refine lv_goto (tgt := 27) hx hb dX6_hasCells_23 (by decide) ?_
        obtain rfl := Option.some.inj hf
        exact retRz C (Or.inr rfl) dX6_hasCells_27
set_option maxHeartbeats 4000000 in
set_option maxRecDepth 100000 in
theorem c_X3_fitsHead (l : Launch) (D : va_G) (tys : List (ClassId × FieldType)) (w : va_W) (x0 : Int32) (x1 : Int32) (r : Int32) (hf : f_X3_fitsHead x0 x1 = some r) : Met l yX3_fitsHead (cW yX3_fitsHead cX3_fitsHead 2 (some .boolean)) (rmv 1 22) (Pw D tys w [.int x0, .int x1]) (RdQ (.int r)) 0 0 nof := by
  unfold f_X3_fitsHead at hf
  refine met_in (by decide) (Nat.le_of_ble_eq_true rfl) ?_
  intro p e s m args below meth c ls C hP hl
  have C : Cx p s m args meth c cX3_fitsHead 2 (some .boolean) RX3 D tys := C
  obtain ⟨hx, hb, hr, hml, hown, ht, hlocks, hK, hN⟩ := id C
  have hl : lv_has ls 2 [(0, .int x0), (1, .int x1)] := hl
  refine lv_iload_n hx hb dX3_fitsHead_0 rfl (lv_at hl 0 rfl) ?_
  refine lv_if_ne (tgt := 16) hx hb dX3_fitsHead_1 (by decide) (fun c_1 => ?_) (fun c_1 => ?_)
  · have hf := ifn c_1 hf
    refine lv_iload_n hx hb dX3_fitsHead_16 rfl (lv_at hl 1 rfl) ?_
    refine lv_bipush (v := 50) hx hb dX3_fitsHead_17 (by decide) ?_
    refine lv_iload_n hx hb dX3_fitsHead_19 rfl (lv_at hl 0 rfl) ?_
    refine lv_iconst (v := 1) hx hb dX3_fitsHead_20 (by decide) ?_
    refine lv_icmp_ne (tgt := 29) hx hb dX3_fitsHead_21 (by decide) (fun c_2 => ?_) (fun c_2 => ?_)
    · have hf := ifn c_2 hf
      refine lv_bipush (v := 54) hx hb dX3_fitsHead_29 (by decide) ?_
      obtain ⟨r3, e_3, hf⟩ := bns hf
      refine kR (rSN (rest := []) C (c_X11_isWithin l D tys w x1 50 54 r3 e_3) ok_X11_isWithin (hN.m 8 rfl) hP ⟨rfl, rfl, Nat.le_of_ble_eq_true rfl, Nat.le_of_ble_eq_true rfl⟩ rfl hl.1 rfl (Nat.le_of_ble_eq_true rfl) dX3_fitsHead_31 ⟨Nat.le_of_ble_eq_true rfl, Nat.le_of_ble_eq_true rfl⟩) ?_
      obtain ⟨h_4, hf⟩ := ifs hf
      obtain rfl := Option.some.inj hf
      exact retRz C h_4 dX3_fitsHead_34
    · have hf := ifp c_2 hf
      refine lv_bipush (v := 53) hx hb dX3_fitsHead_24 (by decide) ?_
      refine lv_goto (tgt := 31) hx hb dX3_fitsHead_26 (by decide) ?_
      obtain ⟨r5, e_5, hf⟩ := bns hf
      refine kR (rSN (rest := []) C (c_X11_isWithin l D tys w x1 50 53 r5 e_5) ok_X11_isWithin (hN.m 8 rfl) hP ⟨rfl, rfl, Nat.le_of_ble_eq_true rfl, Nat.le_of_ble_eq_true rfl⟩ rfl hl.1 rfl (Nat.le_of_ble_eq_true rfl) dX3_fitsHead_31 ⟨Nat.le_of_ble_eq_true rfl, Nat.le_of_ble_eq_true rfl⟩) ?_
      obtain ⟨h_6, hf⟩ := ifs hf
      obtain rfl := Option.some.inj hf
      exact retRz C h_6 dX3_fitsHead_34
  · have hf := ifp c_1 hf
    refine lv_iload_n hx hb dX3_fitsHead_4 rfl (lv_at hl 1 rfl) ?_
    refine lv_bipush (v := 113) hx hb dX3_fitsHead_5 (by decide) ?_
    refine lv_icmp_ne (tgt := 14) hx hb dX3_fitsHead_7 (by decide) (fun c_7 => ?_) (fun c_7 => ?_)
    · have hf := ifn c_7 hf
      refine lv_iconst (v := 0) hx hb dX3_fitsHead_14 (by decide) ?_
      obtain rfl := Option.some.inj hf
      exact retRz C (Or.inl rfl) dX3_fitsHead_15
    · have hf := ifp c_7 hf
      refine lv_iconst (v := 1) hx hb dX3_fitsHead_10 (by decide) ?_
      refine lv_goto (tgt := 15) hx hb dX3_fitsHead_11 (by decide) ?_
      obtain rfl := Option.some.inj hf
      exact retRz C (Or.inr rfl) dX3_fitsHead_15
set_option maxHeartbeats 4000000 in
set_option maxRecDepth 100000 in
theorem c_X3_rowLength (l : Launch) (D : va_G) (tys : List (ClassId × FieldType)) (w : va_W) (x0 : Int32) (r : Int32) (hf : f_X3_rowLength x0 = some r) : Met l yX3_rowLength (cW yX3_rowLength cX3_rowLength 1 (some .int)) (rmv 0 0) (Pw D tys w [.int x0]) (RdQ (.int r)) 0 0 nof := by
  unfold f_X3_rowLength at hf
  refine met_in (by decide) (Nat.le_of_ble_eq_true rfl) ?_
  intro p e s m args below meth c ls C hP hl
  have C : Cx p s m args meth c cX3_rowLength 1 (some .int) RX3 D tys := C
  obtain ⟨hx, hb, hr, hml, hown, ht, hlocks, hK, hN⟩ := id C
  have hl : lv_has ls 1 [(0, .int x0)] := hl
  refine lv_iconst (v := 1) hx hb dX3_rowLength_0 (by decide) ?_
  refine lv_iconst (v := 2) hx hb dX3_rowLength_1 (by decide) ?_
  refine lv_iload_n hx hb dX3_rowLength_2 rfl (lv_at hl 0 rfl) ?_
  refine lv_imul hx hb dX3_rowLength_3 ?_
  refine lv_iadd hx hb dX3_rowLength_4 ?_
  obtain rfl := Option.some.inj hf
  exact retR C dX3_rowLength_5
set_option maxHeartbeats 4000000 in
set_option maxRecDepth 100000 in
theorem c_X3_kindBy (l : Launch) (D : va_G) (tys : List (ClassId × FieldType)) (w : va_W) (x0 : Int32) (r : Int32) (hf : f_X3_kindBy x0 = some r) : Met l yX3_kindBy (cW yX3_kindBy cX3_kindBy 1 (some .int)) (rmv 0 0) (Pw D tys w [.int x0]) (RdQ (.int r)) 0 0 nof := by
  unfold f_X3_kindBy at hf
  refine met_in (by decide) (Nat.le_of_ble_eq_true rfl) ?_
  intro p e s m args below meth c ls C hP hl
  have C : Cx p s m args meth c cX3_kindBy 1 (some .int) RX3 D tys := C
  obtain ⟨hx, hb, hr, hml, hown, ht, hlocks, hK, hN⟩ := id C
  have hl : lv_has ls 1 [(0, .int x0)] := hl
  refine lv_iload_n hx hb dX3_kindBy_0 rfl (lv_at hl 0 rfl) ?_
  by_cases c_1 : x0 = 99
  · have hf := ifp c_1 hf
    refine lv_lookup (tgt := 38) (off := 37) hx hb dX3_kindBy_1 (by decide) (by rw [c_1]; rfl) (by decide) ?_
    refine lv_iconst (v := 1) hx hb dX3_kindBy_38 (by decide) ?_
    obtain rfl := Option.some.inj hf
    exact retR C dX3_kindBy_39
  · have hf := ifn c_1 hf
    by_cases c_2 : x0 = 102
    · have hf := ifp c_2 hf
      refine lv_lookup (tgt := 40) (off := 39) hx hb dX3_kindBy_1 (by decide) (by rw [c_2]; rfl) (by decide) ?_
      refine lv_iconst (v := 2) hx hb dX3_kindBy_40 (by decide) ?_
      obtain rfl := Option.some.inj hf
      exact retR C dX3_kindBy_41
    · have hf := ifn c_2 hf
      by_cases c_3 : x0 = 115
      · have hf := ifp c_3 hf
        refine lv_lookup (tgt := 36) (off := 35) hx hb dX3_kindBy_1 (by decide) (by rw [c_3]; rfl) (by decide) ?_
        refine lv_iconst (v := 0) hx hb dX3_kindBy_36 (by decide) ?_
        obtain rfl := Option.some.inj hf
        exact retR C dX3_kindBy_37
      · have hf := ifn c_3 hf
        refine lv_lookup (tgt := 42) (off := 41) hx hb dX3_kindBy_1 (by decide) (by have q0 : ¬ 99 = Int32.toInt x0 := fun e => i32ne c_1 e.symm; have q1 : ¬ 102 = Int32.toInt x0 := fun e => i32ne c_2 e.symm; have q2 : ¬ 115 = Int32.toInt x0 := fun e => i32ne c_3 e.symm; simp [Op.lookupswitch.offset, q0, q1, q2]) (by decide) ?_
        refine lv_bipush (v := (-9)) hx hb dX3_kindBy_42 (by decide) ?_
        obtain rfl := Option.some.inj hf
        exact retR C dX3_kindBy_44
set_option maxHeartbeats 4000000 in
set_option maxRecDepth 100000 in
theorem c_X3_fitsRow (l : Launch) (D : va_G) (tys : List (ClassId × FieldType)) (w : va_W) (x0 : Int32) (x1 : Int32) (x2 : Int32) (r : Int32) (hf : f_X3_fitsRow x0 x1 x2 = some r) : Met l yX3_fitsRow (cW yX3_fitsRow cX3_fitsRow 4 (some .boolean)) (rmv 1 22) (Pw D tys w [.int x0, .int x1, .int x2]) (RdQ (.int r)) 0 0 nof := by
  unfold f_X3_fitsRow at hf
  refine met_in (by decide) (Nat.le_of_ble_eq_true rfl) ?_
  intro p e s m args below meth c ls C hP hl
  have C : Cx p s m args meth c cX3_fitsRow 4 (some .boolean) RX3 D tys := C
  obtain ⟨hx, hb, hr, hml, hown, ht, hlocks, hK, hN⟩ := id C
  have hl : lv_has ls 4 [(0, .int x0), (1, .int x1), (2, .int x2)] := hl
  refine lv_iload_n hx hb dX3_fitsRow_0 rfl (lv_at hl 0 rfl) ?_
  refine lv_iconst (v := 3) hx hb dX3_fitsRow_1 (by decide) ?_
  refine lv_isub hx hb dX3_fitsRow_2 ?_
  refine lv_iload_n hx hb dX3_fitsRow_3 rfl (lv_at hl 2 rfl) ?_
  obtain ⟨r1, e_1, hf⟩ := bns hf
  refine kR (rS (rest := [.int (x0 - 3)]) C (c_X3_rowLength l D tys w x2 r1 e_1) ok_X3_rowLength wd_297 hP ⟨rfl, rfl, Nat.le_of_ble_eq_true rfl, Nat.le_of_ble_eq_true rfl⟩ rfl hl.1 rfl (Nat.le_of_ble_eq_true rfl) dX3_fitsRow_4 ⟨Nat.le_of_ble_eq_true rfl, Nat.le_of_ble_eq_true rfl⟩) ?_
  obtain ⟨h_2, hf⟩ := ifs hf
  refine lv_irem hx hb dX3_fitsRow_7 h_2 ?_
  refine lv_topi (fun z3 ez3 => ?_)
  have hf := nmr ez3 hf
  refine lv_istore_n (lv' := [(3, .int z3), (0, .int x0), (1, .int x1), (2, .int x2)]) hx hb dX3_fitsRow_8 rfl hl (by decide) rfl (fun ls hl => ?_)
  refine lv_iload_n hx hb dX3_fitsRow_9 rfl (lv_at hl 0 rfl) ?_
  refine lv_if_ne (tgt := 25) hx hb dX3_fitsRow_10 (by decide) (fun c_4 => ?_) (fun c_4 => ?_)
  · have hf := ifn c_4 hf
    refine lv_iload_n hx hb dX3_fitsRow_25 rfl (lv_at hl 0 rfl) ?_
    refine lv_iconst (v := 2) hx hb dX3_fitsRow_26 (by decide) ?_
    refine lv_irem hx hb dX3_fitsRow_27 (by decide) ?_
    refine lv_iconst (v := 1) hx hb dX3_fitsRow_28 (by decide) ?_
    refine lv_icmp_ne (tgt := 49) hx hb dX3_fitsRow_29 (by decide) (fun c_5 => ?_) (fun c_5 => ?_)
    · have hf := ifn c_5 hf
      refine lv_iload_n hx hb dX3_fitsRow_49 rfl (lv_at hl 2 rfl) ?_
      refine lv_bipush (v := 48) hx hb dX3_fitsRow_50 (by decide) ?_
      refine lv_bipush (v := 57) hx hb dX3_fitsRow_52 (by decide) ?_
      obtain ⟨r6, e_6, hf⟩ := bns hf
      refine kR (rSN (rest := []) C (c_X11_isWithin l D tys w x1 48 57 r6 e_6) ok_X11_isWithin (hN.m 8 rfl) hP ⟨rfl, rfl, Nat.le_of_ble_eq_true rfl, Nat.le_of_ble_eq_true rfl⟩ rfl hl.1 rfl (Nat.le_of_ble_eq_true rfl) dX3_fitsRow_54 ⟨Nat.le_of_ble_eq_true rfl, Nat.le_of_ble_eq_true rfl⟩) ?_
      obtain ⟨h_7, hf⟩ := ifs hf
      obtain rfl := Option.some.inj hf
      exact retRz C h_7 dX3_fitsRow_57
    · have hf := ifp c_5 hf
      refine lv_iload_n hx hb dX3_fitsRow_32 rfl (lv_at hl 2 rfl) ?_
      obtain ⟨r8, e_8, hf⟩ := bns hf
      refine kR (rS (rest := []) C (c_X3_kindBy l D tys w x1 r8 e_8) ok_X3_kindBy wd_300 hP ⟨rfl, rfl, Nat.le_of_ble_eq_true rfl, Nat.le_of_ble_eq_true rfl⟩ rfl hl.1 rfl (Nat.le_of_ble_eq_true rfl) dX3_fitsRow_33 ⟨Nat.le_of_ble_eq_true rfl, Nat.le_of_ble_eq_true rfl⟩) ?_
      refine lv_bipush (v := (-9)) hx hb dX3_fitsRow_36 (by decide) ?_
      refine lv_icmp_eq (tgt := 45) hx hb dX3_fitsRow_38 (by decide) (fun c_9 => ?_) (fun c_9 => ?_)
      · have hf := ifp c_9 hf
        refine lv_iconst (v := 0) hx hb dX3_fitsRow_45 (by decide) ?_
        refine lv_goto (tgt := 57) hx hb dX3_fitsRow_46 (by decide) ?_
        obtain rfl := Option.some.inj hf
        exact retRz C (Or.inl rfl) dX3_fitsRow_57
      · have hf := ifn c_9 hf
        refine lv_iconst (v := 1) hx hb dX3_fitsRow_41 (by decide) ?_
        refine lv_goto (tgt := 57) hx hb dX3_fitsRow_42 (by decide) ?_
        obtain rfl := Option.some.inj hf
        exact retRz C (Or.inr rfl) dX3_fitsRow_57
  · have hf := ifp c_4 hf
    refine lv_iload_n hx hb dX3_fitsRow_13 rfl (lv_at hl 2 rfl) ?_
    refine lv_bipush (v := 59) hx hb dX3_fitsRow_14 (by decide) ?_
    refine lv_icmp_ne (tgt := 23) hx hb dX3_fitsRow_16 (by decide) (fun c_10 => ?_) (fun c_10 => ?_)
    · have hf := ifn c_10 hf
      refine lv_iconst (v := 0) hx hb dX3_fitsRow_23 (by decide) ?_
      obtain rfl := Option.some.inj hf
      exact retRz C (Or.inl rfl) dX3_fitsRow_24
    · have hf := ifp c_10 hf
      refine lv_iconst (v := 1) hx hb dX3_fitsRow_19 (by decide) ?_
      refine lv_goto (tgt := 24) hx hb dX3_fitsRow_20 (by decide) ?_
      obtain rfl := Option.some.inj hf
      exact retRz C (Or.inr rfl) dX3_fitsRow_24
set_option maxHeartbeats 4000000 in
set_option maxRecDepth 100000 in
theorem c_X11_isMonth (l : Launch) (D : va_G) (tys : List (ClassId × FieldType)) (w : va_W) (x0 : Int32) (r : Int32) (hf : f_X11_isMonth x0 = some r) : Met l yX11_isMonth (cW yX11_isMonth cX11_isMonth 1 (some .boolean)) (rmv 1 22) (Pw D tys w [.int x0]) (RdQ (.int r)) 0 0 nof := by
  unfold f_X11_isMonth at hf
  refine met_in (by decide) (Nat.le_of_ble_eq_true rfl) ?_
  intro p e s m args below meth c ls C hP hl
  have C : Cx p s m args meth c cX11_isMonth 1 (some .boolean) RX11 D tys := C
  obtain ⟨hx, hb, hr, hml, hown, ht, hlocks, hK, hN⟩ := id C
  have hl : lv_has ls 1 [(0, .int x0)] := hl
  refine lv_iload_n hx hb dX11_isMonth_0 rfl (lv_at hl 0 rfl) ?_
  refine lv_iconst (v := 0) hx hb dX11_isMonth_1 (by decide) ?_
  refine lv_bipush (v := 11) hx hb dX11_isMonth_2 (by decide) ?_
  obtain ⟨r1, e_1, hf⟩ := bns hf
  refine kR (rS (rest := []) C (c_X11_isWithin l D tys w x0 0 11 r1 e_1) ok_X11_isWithin wd_265 hP ⟨rfl, rfl, Nat.le_of_ble_eq_true rfl, Nat.le_of_ble_eq_true rfl⟩ rfl hl.1 rfl (Nat.le_of_ble_eq_true rfl) dX11_isMonth_4 ⟨Nat.le_of_ble_eq_true rfl, Nat.le_of_ble_eq_true rfl⟩) ?_
  obtain ⟨h_2, hf⟩ := ifs hf
  obtain rfl := Option.some.inj hf
  exact retRz C h_2 dX11_isMonth_7
set_option maxHeartbeats 4000000 in
set_option maxRecDepth 100000 in
theorem c_X7_swell_0 (l : Launch) (D : va_G) (g : Nat → ClassId) (a : Nat → Nat) (M : Mem) (x1 : Int32) (x2 : Int32) (r : Int32) (hf : f_X7_swell M x1 x2 = some r) : Met l yX7_swell (cW yX7_swell cX7_swell 3 (some .int)) (rmv 0 0) (Pw D (tyL g) (wC g a M) [.ref (a 18), .int x1, .int x2]) (RdQ (.int r)) 0 0 nof := by
  unfold f_X7_swell at hf
  refine met_in (by decide) (Nat.le_of_ble_eq_true rfl) ?_
  intro p e s m args below meth c ls C hP hl
  have C : Cx p s m args meth c cX7_swell 3 (some .int) RX7 D (tyL g) := C
  obtain ⟨hx, hb, hr, hml, hown, ht, hlocks, hK, hN⟩ := id C
  have hl : lv_has ls 3 [(0, .ref (a 18)), (1, .int x1), (2, .int x2)] := hl
  refine lv_iconst (v := 0) hx hb dX7_swell_0 (by decide) ?_
  obtain rfl := Option.some.inj hf
  exact retR C dX7_swell_1
set_option maxHeartbeats 4000000 in
set_option maxRecDepth 100000 in
theorem c_X0_swell_1 (l : Launch) (D : va_G) (g : Nat → ClassId) (a : Nat → Nat) (M : Mem) (x1 : Int32) (x2 : Int32) (r : Int32) (hf : f_X0_swell M x1 x2 = some r) : Met l yX0_swell (cW yX0_swell cX0_swell 3 (some .int)) (rmv 0 0) (Pw D (tyL g) (wC g a M) [.ref (a 19), .int x1, .int x2]) (RdQ (.int r)) 0 0 nof := by
  unfold f_X0_swell at hf
  refine met_in (by decide) (Nat.le_of_ble_eq_true rfl) ?_
  intro p e s m args below meth c ls C hP hl
  have C : Cx p s m args meth c cX0_swell 3 (some .int) RX0 D (tyL g) := C
  obtain ⟨hx, hb, hr, hml, hown, ht, hlocks, hK, hN⟩ := id C
  have hl : lv_has ls 3 [(0, .ref (a 19)), (1, .int x1), (2, .int x2)] := hl
  refine lv_iconst (v := 3) hx hb dX0_swell_0 (by decide) ?_
  refine lv_iload_n hx hb dX0_swell_1 rfl (lv_at hl 1 rfl) ?_
  refine lv_imul hx hb dX0_swell_2 ?_
  obtain rfl := Option.some.inj hf
  exact retR C dX0_swell_3
set_option maxHeartbeats 4000000 in
set_option maxRecDepth 100000 in
theorem c_X0_swell_2 (l : Launch) (D : va_G) (g : Nat → ClassId) (a : Nat → Nat) (M : Mem) (x1 : Int32) (x2 : Int32) (r : Int32) (hf : f_X0_swell M x1 x2 = some r) : Met l yX0_swell (cW yX0_swell cX0_swell 3 (some .int)) (rmv 0 0) (Pw D (tyL g) (wC g a M) [.ref (a 20), .int x1, .int x2]) (RdQ (.int r)) 0 0 nof := by
  unfold f_X0_swell at hf
  refine met_in (by decide) (Nat.le_of_ble_eq_true rfl) ?_
  intro p e s m args below meth c ls C hP hl
  have C : Cx p s m args meth c cX0_swell 3 (some .int) RX0 D (tyL g) := C
  obtain ⟨hx, hb, hr, hml, hown, ht, hlocks, hK, hN⟩ := id C
  have hl : lv_has ls 3 [(0, .ref (a 20)), (1, .int x1), (2, .int x2)] := hl
  refine lv_iconst (v := 3) hx hb dX0_swell_0 (by decide) ?_
  refine lv_iload_n hx hb dX0_swell_1 rfl (lv_at hl 1 rfl) ?_
  refine lv_imul hx hb dX0_swell_2 ?_
  obtain rfl := Option.some.inj hf
  exact retR C dX0_swell_3
set_option maxHeartbeats 4000000 in
set_option maxRecDepth 100000 in
theorem c_X1_swell_2 (l : Launch) (D : va_G) (g : Nat → ClassId) (a : Nat → Nat) (M : Mem) (x1 : Int32) (x2 : Int32) (r : Int32) (hf : f_X1_swell M x1 x2 = some r) : Met l yX1_swell (cW yX1_swell cX1_swell 3 (some .int)) (rmv 1 22) (Pw D (tyL g) (wC g a M) [.ref (a 20), .int x1, .int x2]) (RdQ (.int r)) 0 0 nof := by
  unfold f_X1_swell at hf
  refine met_in (by decide) (Nat.le_of_ble_eq_true rfl) ?_
  intro p e s m args below meth c ls C hP hl
  have C : Cx p s m args meth c cX1_swell 3 (some .int) RX1 D (tyL g) := C
  obtain ⟨hx, hb, hr, hml, hown, ht, hlocks, hK, hN⟩ := id C
  have hl : lv_has ls 3 [(0, .ref (a 20)), (1, .int x1), (2, .int x2)] := hl
  refine lv_aload_n hx hb dX1_swell_0 rfl (lv_at hl 0 rfl) ?_
  refine lv_iload_n hx hb dX1_swell_1 rfl (lv_at hl 1 rfl) ?_
  refine lv_iload_n hx hb dX1_swell_2 rfl (lv_at hl 2 rfl) ?_
  obtain ⟨r1, e_1, hf⟩ := bns hf
  refine kR (rP_7_X1_X0_swell_2 (rest := []) C (c_X0_swell_2 l D g a M x1 x2 r1 e_1) hP ⟨rfl, rfl, Nat.le_of_ble_eq_true rfl, Nat.le_of_ble_eq_true rfl⟩ rfl hl.1 rfl (Nat.le_of_ble_eq_true rfl) dX1_swell_3 ⟨Nat.le_of_ble_eq_true rfl, Nat.le_of_ble_eq_true rfl⟩) ?_
  refine lv_iconst (v := 2) hx hb dX1_swell_6 (by decide) ?_
  refine lv_iload_n hx hb dX1_swell_7 rfl (lv_at hl 2 rfl) ?_
  refine lv_imul hx hb dX1_swell_8 ?_
  refine lv_iadd hx hb dX1_swell_9 ?_
  obtain rfl := Option.some.inj hf
  exact retR C dX1_swell_10
set_option maxHeartbeats 4000000 in
set_option maxRecDepth 100000 in
theorem c_X11_isApart (l : Launch) (D : va_G) (tys : List (ClassId × FieldType)) (w : va_W) (x0 : Int32) (r : Int32) (hf : f_X11_isApart x0 = some r) : Met l yX11_isApart (cW yX11_isApart cX11_isApart 1 (some .boolean)) (rmv 1 22) (Pw D tys w [.int x0]) (RdQ (.int r)) 0 0 nof := by
  unfold f_X11_isApart at hf
  refine met_in (by decide) (Nat.le_of_ble_eq_true rfl) ?_
  intro p e s m args below meth c ls C hP hl
  have C : Cx p s m args meth c cX11_isApart 1 (some .boolean) RX11 D tys := C
  obtain ⟨hx, hb, hr, hml, hown, ht, hlocks, hK, hN⟩ := id C
  have hl : lv_has ls 1 [(0, .int x0)] := hl
  refine lv_iload_n hx hb dX11_isApart_0 rfl (lv_at hl 0 rfl) ?_
  refine lv_iconst (v := 0) hx hb dX11_isApart_1 (by decide) ?_
  refine lv_sipush (v := 999) hx hb dX11_isApart_2 (by decide) ?_
  obtain ⟨r1, e_1, hf⟩ := bns hf
  refine kR (rS (rest := []) C (c_X11_isWithin l D tys w x0 0 999 r1 e_1) ok_X11_isWithin wd_265 hP ⟨rfl, rfl, Nat.le_of_ble_eq_true rfl, Nat.le_of_ble_eq_true rfl⟩ rfl hl.1 rfl (Nat.le_of_ble_eq_true rfl) dX11_isApart_5 ⟨Nat.le_of_ble_eq_true rfl, Nat.le_of_ble_eq_true rfl⟩) ?_
  obtain ⟨h_2, hf⟩ := ifs hf
  obtain rfl := Option.some.inj hf
  exact retRz C h_2 dX11_isApart_8
set_option maxHeartbeats 4000000 in
set_option maxRecDepth 100000 in
theorem w_X6_renew_l2 {p : Program} {l : Launch} {e : Env} {s : State} {m : MethodId} {args : Array Value} {below : List Frame} {meth : Method} {c : Code} {D : va_G} {g : Nat → ClassId} {a : Nat → Nat} (C : Cx p s m args meth c cX6_renew 4 none RX6 D (tyL g)) (hJ : Inj a 41) (N : Nat) {k : Nat} (hk : k < 4) (x1 : Int32) (x2 : Int32) (M' : Mem) :
    ∀ (n : Nat) (M : Mem) (x3 : Int32), ∀ (H : Heap) (locs : List Loc), va_P D clL (wC g a M) H → va_S (inA a 41) s.heap H locs → ∀ (ls : Array Slot), lv_has ls 4 [(0, .ref (a (9 + k))), (1, .int x1), (2, .int x2), (3, .int x3)] → f_X6_renew_l2 N k x1 x2 n M x3 = some M' → W p l e (rmv 0 0) s m args below meth c H locs 0 0 (MQ below (WvQ D (wC g a M') (inA a 41)) args s 0 0 (inA a 41)) (F0 m 2 ls []) := by
  obtain ⟨hx, hb, hr, hml, hown, ht, hlocks, hK, hN⟩ := id C
  intro n
  induction n with
  | zero =>
    intro M x3 H locs hP hS ls hl hf
    exact nos hf
  | succ n ih =>
    intro M x3 H locs hP hS ls hl hf
    rw [f_X6_renew_l2] at hf
    refine lv_iload_n hx hb dX6_renew_2 rfl (lv_at hl 3 rfl) ?_
    refine lv_iload_n hx hb dX6_renew_3 rfl (lv_at hl 2 rfl) ?_
    refine lv_icmp_ge (tgt := 20) hx hb dX6_renew_4 (by decide) (fun c_1 => ?_) (fun c_1 => ?_)
    · have hf := ifp c_1 hf
      refine lv_aload_n hx hb dX6_renew_20 rfl (lv_at hl 0 rfl) ?_
      refine lv_iload_n hx hb dX6_renew_21 rfl (lv_at hl 1 rfl) ?_
      refine fp_X6_15 hk C hP (wC_D hJ) hS dX6_renew_22 (fun H locs hP hS => ?_)
      obtain ⟨M2, eM2, hf⟩ := nms hf
      have hP : va_P D clL (wC g a M2) H := by rw [eM2]; exact hP
      refine lv_aload_n hx hb dX6_renew_25 rfl (lv_at hl 0 rfl) ?_
      refine lv_iload_n hx hb dX6_renew_26 rfl (lv_at hl 2 rfl) ?_
      refine fp_X6_23 hk C hP (wC_D hJ) hS dX6_renew_27 (fun H locs hP hS => ?_)
      obtain ⟨M3, eM3, hf⟩ := nms hf
      have hP : va_P D clL (wC g a M3) H := by rw [eM3]; exact hP
      obtain rfl := Option.some.inj hf
      exact retWv C hP hS dX6_renew_30
    · have hf := ifn c_1 hf
      refine lv_aload_n hx hb dX6_renew_7 rfl (lv_at hl 0 rfl) ?_
      refine fg_X6_9 hk C hP dX6_renew_8 ?_
      refine lv_iload_n hx hb dX6_renew_11 rfl (lv_at hl 3 rfl) ?_
      refine lv_iconst (v := 0) hx hb dX6_renew_12 (by decide) ?_
      obtain ⟨h_4, hf⟩ := ifs hf
      refine ast (wC g a) C hP (wC_D hJ) hS (13 + k) 0 (aC_T g a M hk) rfl (sC_T g a M hk) h_4 dX6_renew_13 (fun H locs hP hS => ?_)
      obtain ⟨M5, eM5, hf⟩ := nms hf
      have hP : va_P D clL (wC g a M5) H := by rw [eM5]; exact hP
      refine lv_iinc (v := (x3 + 1)) (lv' := [(3, .int (x3 + 1)), (0, .ref (a (9 + k))), (1, .int x1), (2, .int x2)]) hx hb dX6_renew_14 hl (k := 3) rfl rfl (by decide) rfl (fun ls hl => ?_)
      refine lv_goto (tgt := 2) hx hb dX6_renew_17 (by decide) ?_
      exact ih M5 (x3 + 1) H locs hP hS ls (lv_sub hl [1, 2, 3, 0] rfl) hf
set_option maxHeartbeats 4000000 in
set_option maxRecDepth 100000 in
theorem c_X6_renew (l : Launch) (D : va_G) (g : Nat → ClassId) (a : Nat → Nat) (hJ : Inj a 41) (N : Nat) (k : Nat) (hk : k < 4) (M : Mem) (x1 : Int32) (x2 : Int32) (M' : Mem) (hf : f_X6_renew N k M x1 x2 = some M') : Met l yX6_renew (cW yX6_renew cX6_renew 4 none) (rmv 0 0) (Pw D (tyL g) (wC g a M) [.ref (a (9 + k)), .int x1, .int x2]) (WvQ D (wC g a M') (inA a 41)) 0 0 (inA a 41) := by
  unfold f_X6_renew at hf
  refine met_inW (A := (inA a 41)) (by decide) (Nat.le_of_ble_eq_true rfl) ?_
  intro p e s m args below meth c ls H locs C hP hS hl
  have C : Cx p s m args meth c cX6_renew 4 none RX6 D (tyL g) := C
  obtain ⟨hx, hb, hr, hml, hown, ht, hlocks, hK, hN⟩ := id C
  have hl : lv_has ls 4 [(0, .ref (a (9 + k))), (1, .int x1), (2, .int x2)] := hl
  refine lv_iconst (v := 0) hx hb dX6_renew_0 (by decide) ?_
  refine lv_istore_n (lv' := [(3, .int 0), (0, .ref (a (9 + k))), (1, .int x1), (2, .int x2)]) hx hb dX6_renew_1 rfl hl (by decide) rfl (fun ls hl => ?_)
  exact w_X6_renew_l2 C hJ N hk x1 x2 M' N M 0 H locs hP hS ls (lv_sub hl [1, 2, 3, 0] rfl) hf
set_option maxHeartbeats 4000000 in
set_option maxRecDepth 100000 in
theorem c_X6_clear (l : Launch) (D : va_G) (g : Nat → ClassId) (a : Nat → Nat) (hJ : Inj a 41) (k : Nat) (hk : k < 4) (M : Mem) (r : Int32) (M' : Mem) (hf : f_X6_clear k M = some (r, M')) : Met l yX6_clear (cW yX6_clear cX6_clear 2 (some .boolean)) (rmv 1 20) (Pw D (tyL g) (wC g a M) [.ref (a (9 + k))]) (WrQ D (wC g a M') (inA a 41) (.int r)) 0 0 (inA a 41) := by
  unfold f_X6_clear at hf
  refine met_inW (A := (inA a 41)) (by decide) (Nat.le_of_ble_eq_true rfl) ?_
  intro p e s m args below meth c ls H locs C hP hS hl
  have C : Cx p s m args meth c cX6_clear 2 (some .boolean) RX6 D (tyL g) := C
  obtain ⟨hx, hb, hr, hml, hown, ht, hlocks, hK, hN⟩ := id C
  have hl : lv_has ls 2 [(0, .ref (a (9 + k)))] := hl
  refine lv_aload_n hx hb dX6_clear_0 rfl (lv_at hl 0 rfl) ?_
  obtain ⟨r1, e_1, hf⟩ := bns hf
  refine kR (rV (rest := []) C (c_X6_isNothing l D g a k hk M r1 e_1) ok_X6_isNothing wd_275 hP (9 + k) (aC_S g a M hk) rfl ⟨rfl, rfl, Nat.le_of_ble_eq_true rfl, Nat.le_of_ble_eq_true rfl⟩ rfl hl.1 rfl (Nat.le_of_ble_eq_true rfl) dX6_clear_1 ⟨Nat.le_of_ble_eq_true rfl, Nat.le_of_ble_eq_true rfl⟩) ?_
  refine lv_if_ne (tgt := 11) hx hb dX6_clear_4 (by decide) (fun c_2 => ?_) (fun c_2 => ?_)
  · have hf := ifn c_2 hf
    refine lv_iconst (v := 0) hx hb dX6_clear_11 (by decide) ?_
    refine lv_istore_n (lv' := [(1, .int 0), (0, .ref (a (9 + k)))]) hx hb dX6_clear_12 rfl hl (by decide) rfl (fun ls hl => ?_)
    refine lv_aload_n hx hb dX6_clear_13 rfl (lv_at hl 1 rfl) ?_
    refine lv_iconst (v := (-1)) hx hb dX6_clear_14 (by decide) ?_
    refine fp_X6_15 hk C hP (wC_D hJ) hS dX6_clear_15 (fun H locs hP hS => ?_)
    obtain ⟨M3, eM3, hf⟩ := nms hf
    have hP : va_P D clL (wC g a M3) H := by rw [eM3]; exact hP
    refine lv_aload_n hx hb dX6_clear_18 rfl (lv_at hl 1 rfl) ?_
    refine lv_iconst (v := 0) hx hb dX6_clear_19 (by decide) ?_
    refine fp_X6_23 hk C hP (wC_D hJ) hS dX6_clear_20 (fun H locs hP hS => ?_)
    obtain ⟨M4, eM4, hf⟩ := nms hf
    have hP : va_P D clL (wC g a M4) H := by rw [eM4]; exact hP
    refine lv_iload_n hx hb dX6_clear_23 rfl (lv_at hl 0 rfl) ?_
    obtain ⟨rfl, rfl⟩ := Prod.mk.inj (Option.some.inj hf)
    exact retWz C (Or.inl rfl) hP hS dX6_clear_24
  · have hf := ifp c_2 hf
    refine lv_iconst (v := 1) hx hb dX6_clear_7 (by decide) ?_
    refine lv_goto (tgt := 12) hx hb dX6_clear_8 (by decide) ?_
    refine lv_istore_n (lv' := [(1, .int 1), (0, .ref (a (9 + k)))]) hx hb dX6_clear_12 rfl hl (by decide) rfl (fun ls hl => ?_)
    refine lv_aload_n hx hb dX6_clear_13 rfl (lv_at hl 1 rfl) ?_
    refine lv_iconst (v := (-1)) hx hb dX6_clear_14 (by decide) ?_
    refine fp_X6_15 hk C hP (wC_D hJ) hS dX6_clear_15 (fun H locs hP hS => ?_)
    obtain ⟨M5, eM5, hf⟩ := nms hf
    have hP : va_P D clL (wC g a M5) H := by rw [eM5]; exact hP
    refine lv_aload_n hx hb dX6_clear_18 rfl (lv_at hl 1 rfl) ?_
    refine lv_iconst (v := 0) hx hb dX6_clear_19 (by decide) ?_
    refine fp_X6_23 hk C hP (wC_D hJ) hS dX6_clear_20 (fun H locs hP hS => ?_)
    obtain ⟨M6, eM6, hf⟩ := nms hf
    have hP : va_P D clL (wC g a M6) H := by rw [eM6]; exact hP
    refine lv_iload_n hx hb dX6_clear_23 rfl (lv_at hl 0 rfl) ?_
    obtain ⟨rfl, rfl⟩ := Prod.mk.inj (Option.some.inj hf)
    exact retWz C (Or.inr rfl) hP hS dX6_clear_24
set_option maxHeartbeats 4000000 in
set_option maxRecDepth 100000 in
theorem c_X6_hasCell (l : Launch) (D : va_G) (g : Nat → ClassId) (a : Nat → Nat) (k : Nat) (hk : k < 4) (M : Mem) (x1 : Int32) (r : Int32) (hf : f_X6_hasCell k M x1 = some r) : Met l yX6_hasCell (cW yX6_hasCell cX6_hasCell 2 (some .boolean)) (rmv 0 0) (Pw D (tyL g) (wC g a M) [.ref (a (9 + k)), .int x1]) (RdQ (.int r)) 0 0 nof := by
  unfold f_X6_hasCell at hf
  refine met_in (by decide) (Nat.le_of_ble_eq_true rfl) ?_
  intro p e s m args below meth c ls C hP hl
  have C : Cx p s m args meth c cX6_hasCell 2 (some .boolean) RX6 D (tyL g) := C
  obtain ⟨hx, hb, hr, hml, hown, ht, hlocks, hK, hN⟩ := id C
  have hl : lv_has ls 2 [(0, .ref (a (9 + k))), (1, .int x1)] := hl
  refine lv_iload_n hx hb dX6_hasCell_0 rfl (lv_at hl 1 rfl) ?_
  refine lv_if_lt (tgt := 16) hx hb dX6_hasCell_1 (by decide) (fun c_1 => ?_) (fun c_1 => ?_)
  · have hf := ifp c_1 hf
    refine lv_iconst (v := 0) hx hb dX6_hasCell_16 (by decide) ?_
    obtain rfl := Option.some.inj hf
    exact retRz C (Or.inl rfl) dX6_hasCell_17
  · have hf := ifn c_1 hf
    refine lv_iload_n hx hb dX6_hasCell_4 rfl (lv_at hl 1 rfl) ?_
    refine lv_aload_n hx hb dX6_hasCell_5 rfl (lv_at hl 0 rfl) ?_
    refine fg_X6_23 hk C hP dX6_hasCell_6 ?_
    refine lv_icmp_ge (tgt := 16) hx hb dX6_hasCell_9 (by decide) (fun c_2 => ?_) (fun c_2 => ?_)
    · have hf := ifp c_2 hf
      refine lv_iconst (v := 0) hx hb dX6_hasCell_16 (by decide) ?_
      obtain rfl := Option.some.inj hf
      exact retRz C (Or.inl rfl) dX6_hasCell_17
    · have hf := ifn c_2 hf
      refine lv_iconst (v := 1) hx hb dX6_hasCell_12 (by decide) ?_
      refine lv_goto (tgt := 17) hx hb dX6_hasCell_13 (by decide) ?_
      obtain rfl := Option.some.inj hf
      exact retRz C (Or.inr rfl) dX6_hasCell_17
set_option maxHeartbeats 4000000 in
set_option maxRecDepth 100000 in
theorem c_X6_write (l : Launch) (D : va_G) (g : Nat → ClassId) (a : Nat → Nat) (hJ : Inj a 41) (k : Nat) (hk : k < 4) (M : Mem) (x1 : Int32) (x2 : Int32) (M' : Mem) (hf : f_X6_write k M x1 x2 = some M') : Met l yX6_write (cW yX6_write cX6_write 3 none) (rmv 0 0) (Pw D (tyL g) (wC g a M) [.ref (a (9 + k)), .int x1, .int x2]) (WvQ D (wC g a M') (inA a 41)) 0 0 (inA a 41) := by
  unfold f_X6_write at hf
  refine met_inW (A := (inA a 41)) (by decide) (Nat.le_of_ble_eq_true rfl) ?_
  intro p e s m args below meth c ls H locs C hP hS hl
  have C : Cx p s m args meth c cX6_write 3 none RX6 D (tyL g) := C
  obtain ⟨hx, hb, hr, hml, hown, ht, hlocks, hK, hN⟩ := id C
  have hl : lv_has ls 3 [(0, .ref (a (9 + k))), (1, .int x1), (2, .int x2)] := hl
  refine lv_aload_n hx hb dX6_write_0 rfl (lv_at hl 0 rfl) ?_
  refine fg_X6_15 hk C hP dX6_write_1 ?_
  refine lv_topi (fun z1 ez1 => ?_)
  have hf := nmr ez1 hf
  by_cases c_2 : z1 = 0
  · have hf := ifp c_2 hf
    refine lv_lookup (tgt := 32) (off := 28) hx hb dX6_write_4 (by decide) (by rw [c_2]; rfl) (by decide) ?_
    refine lv_aload_n hx hb dX6_write_32 rfl (lv_at hl 0 rfl) ?_
    refine fg_X6_9 hk C hP dX6_write_33 ?_
    refine lv_iload_n hx hb dX6_write_36 rfl (lv_at hl 1 rfl) ?_
    refine lv_iload_n hx hb dX6_write_37 rfl (lv_at hl 2 rfl) ?_
    refine lv_i2b (v := x2.toInt8.toInt32) hx hb dX6_write_38 rfl ?_
    obtain ⟨h_3, hf⟩ := ifs hf
    refine ast (wC g a) C hP (wC_D hJ) hS (13 + k) 0 (aC_T g a M hk) rfl (sC_T g a M hk) h_3 dX6_write_39 (fun H locs hP hS => ?_)
    obtain ⟨M4, eM4, hf⟩ := nms hf
    have hP : va_P D clL (wC g a M4) H := by rw [eM4]; exact hP
    refine lv_goto (tgt := 61) hx hb dX6_write_40 (by decide) ?_
    obtain rfl := Option.some.inj hf
    exact retWv C hP hS dX6_write_61
  · have hf := ifn c_2 hf
    by_cases c_5 : z1 = 1
    · have hf := ifp c_5 hf
      refine lv_lookup (tgt := 43) (off := 39) hx hb dX6_write_4 (by decide) (by rw [c_5]; rfl) (by decide) ?_
      refine lv_aload_n hx hb dX6_write_43 rfl (lv_at hl 0 rfl) ?_
      refine fg_X6_9 hk C hP dX6_write_44 ?_
      refine lv_iload_n hx hb dX6_write_47 rfl (lv_at hl 1 rfl) ?_
      refine lv_iload_n hx hb dX6_write_48 rfl (lv_at hl 2 rfl) ?_
      refine lv_i2s (v := x2.toInt16.toInt32) hx hb dX6_write_49 rfl ?_
      obtain ⟨h_6, hf⟩ := ifs hf
      refine ast (wC g a) C hP (wC_D hJ) hS (13 + k) 0 (aC_T g a M hk) rfl (sC_T g a M hk) h_6 dX6_write_50 (fun H locs hP hS => ?_)
      obtain ⟨M7, eM7, hf⟩ := nms hf
      have hP : va_P D clL (wC g a M7) H := by rw [eM7]; exact hP
      refine lv_goto (tgt := 61) hx hb dX6_write_51 (by decide) ?_
      obtain rfl := Option.some.inj hf
      exact retWv C hP hS dX6_write_61
    · have hf := ifn c_5 hf
      refine lv_lookup (tgt := 54) (off := 50) hx hb dX6_write_4 (by decide) (by have q0 : ¬ 0 = Int32.toInt z1 := fun e => i32ne c_2 e.symm; have q1 : ¬ 1 = Int32.toInt z1 := fun e => i32ne c_5 e.symm; simp [Op.lookupswitch.offset, q0, q1]) (by decide) ?_
      refine lv_aload_n hx hb dX6_write_54 rfl (lv_at hl 0 rfl) ?_
      refine fg_X6_9 hk C hP dX6_write_55 ?_
      refine lv_iload_n hx hb dX6_write_58 rfl (lv_at hl 1 rfl) ?_
      refine lv_iload_n hx hb dX6_write_59 rfl (lv_at hl 2 rfl) ?_
      obtain ⟨h_8, hf⟩ := ifs hf
      refine ast (wC g a) C hP (wC_D hJ) hS (13 + k) 0 (aC_T g a M hk) rfl (sC_T g a M hk) h_8 dX6_write_60 (fun H locs hP hS => ?_)
      obtain ⟨M9, eM9, hf⟩ := nms hf
      have hP : va_P D clL (wC g a M9) H := by rw [eM9]; exact hP
      obtain rfl := Option.some.inj hf
      exact retWv C hP hS dX6_write_61
set_option maxHeartbeats 4000000 in
set_option maxRecDepth 100000 in
theorem c_X8_leave (l : Launch) (D : va_G) (g : Nat → ClassId) (a : Nat → Nat) (hJ : Inj a 41) (M : Mem) (x1 : Int32) (M' : Mem) (hf : f_X8_leave M x1 = some M') : Met l yX8_leave (cW yX8_leave cX8_leave 2 none) (rmv 0 0) (Pw D (tyL g) (wC g a M) [.ref (a 1), .int x1]) (WvQ D (wC g a M') (inA a 41)) 0 0 (inA a 41) := by
  unfold f_X8_leave at hf
  refine met_inW (A := (inA a 41)) (by decide) (Nat.le_of_ble_eq_true rfl) ?_
  intro p e s m args below meth c ls H locs C hP hS hl
  have C : Cx p s m args meth c cX8_leave 2 none RX8 D (tyL g) := C
  obtain ⟨hx, hb, hr, hml, hown, ht, hlocks, hK, hN⟩ := id C
  have hl : lv_has ls 2 [(0, .ref (a 1)), (1, .int x1)] := hl
  refine lv_aload_n hx hb dX8_leave_0 rfl (lv_at hl 0 rfl) ?_
  refine lv_bipush (v := 31) hx hb dX8_leave_1 (by decide) ?_
  refine lv_aload_n hx hb dX8_leave_3 rfl (lv_at hl 0 rfl) ?_
  refine fg_X8_7 C hP dX8_leave_4 ?_
  refine lv_imul hx hb dX8_leave_7 ?_
  refine lv_iload_n hx hb dX8_leave_8 rfl (lv_at hl 1 rfl) ?_
  refine lv_iadd hx hb dX8_leave_9 ?_
  refine fp_X8_7 C hP (wC_D hJ) hS dX8_leave_10 (fun H locs hP hS => ?_)
  obtain ⟨M1, eM1, hf⟩ := nms hf
  have hP : va_P D clL (wC g a M1) H := by rw [eM1]; exact hP
  obtain rfl := Option.some.inj hf
  exact retWv C hP hS dX8_leave_13
set_option maxHeartbeats 4000000 in
set_option maxRecDepth 100000 in
theorem c_X7_stoneTelling_0 (l : Launch) (D : va_G) (g : Nat → ClassId) (a : Nat → Nat) (hJ : Inj a 41) (M : Mem) (x1 : Int32) (r : Int32) (M' : Mem) (hf : f_X7_stoneTelling M x1 = some (r, M')) : Met l yX7_stoneTelling (cW yX7_stoneTelling cX7_stoneTelling 3 (some .int)) (rmv 1 21) (Pw D (tyL g) (wC g a M) [.ref (a 18), .int x1, .ref (a 1)]) (WrQ D (wC g a M') (inA a 41) (.int r)) 0 0 (inA a 41) := by
  unfold f_X7_stoneTelling at hf
  refine met_inW (A := (inA a 41)) (by decide) (Nat.le_of_ble_eq_true rfl) ?_
  intro p e s m args below meth c ls H locs C hP hS hl
  have C : Cx p s m args meth c cX7_stoneTelling 3 (some .int) RX7 D (tyL g) := C
  obtain ⟨hx, hb, hr, hml, hown, ht, hlocks, hK, hN⟩ := id C
  have hl : lv_has ls 3 [(0, .ref (a 18)), (1, .int x1), (2, .ref (a 1))] := hl
  refine lv_aload_n hx hb dX7_stoneTelling_0 rfl (lv_at hl 2 rfl) ?_
  refine lv_iconst (v := 1) hx hb dX7_stoneTelling_1 (by decide) ?_
  obtain ⟨M1, e_1, hf⟩ := bns hf
  refine kWv (rV (rest := []) C (c_X8_leave l D g a hJ M 1 M1 e_1) ok_X8_leave wd_694 hP 1 (aC_1 g a M) rfl ⟨rfl, rfl, Nat.le_of_ble_eq_true rfl, Nat.le_of_ble_eq_true rfl⟩ rfl hl.1 rfl (Nat.le_of_ble_eq_true rfl) dX7_stoneTelling_2 ⟨Nat.le_of_ble_eq_true rfl, Nat.le_of_ble_eq_true rfl⟩) hS (fun H locs hP hS => ?_)
  refine lv_iload_n hx hb dX7_stoneTelling_5 rfl (lv_at hl 1 rfl) ?_
  obtain ⟨rfl, rfl⟩ := Prod.mk.inj (Option.some.inj hf)
  exact retW C hP hS dX7_stoneTelling_6
set_option maxHeartbeats 4000000 in
set_option maxRecDepth 100000 in
theorem c_X7_stoneTelling_1 (l : Launch) (D : va_G) (g : Nat → ClassId) (a : Nat → Nat) (hJ : Inj a 41) (M : Mem) (x1 : Int32) (r : Int32) (M' : Mem) (hf : f_X7_stoneTelling M x1 = some (r, M')) : Met l yX7_stoneTelling (cW yX7_stoneTelling cX7_stoneTelling 3 (some .int)) (rmv 1 21) (Pw D (tyL g) (wC g a M) [.ref (a 19), .int x1, .ref (a 1)]) (WrQ D (wC g a M') (inA a 41) (.int r)) 0 0 (inA a 41) := by
  unfold f_X7_stoneTelling at hf
  refine met_inW (A := (inA a 41)) (by decide) (Nat.le_of_ble_eq_true rfl) ?_
  intro p e s m args below meth c ls H locs C hP hS hl
  have C : Cx p s m args meth c cX7_stoneTelling 3 (some .int) RX7 D (tyL g) := C
  obtain ⟨hx, hb, hr, hml, hown, ht, hlocks, hK, hN⟩ := id C
  have hl : lv_has ls 3 [(0, .ref (a 19)), (1, .int x1), (2, .ref (a 1))] := hl
  refine lv_aload_n hx hb dX7_stoneTelling_0 rfl (lv_at hl 2 rfl) ?_
  refine lv_iconst (v := 1) hx hb dX7_stoneTelling_1 (by decide) ?_
  obtain ⟨M1, e_1, hf⟩ := bns hf
  refine kWv (rV (rest := []) C (c_X8_leave l D g a hJ M 1 M1 e_1) ok_X8_leave wd_694 hP 1 (aC_1 g a M) rfl ⟨rfl, rfl, Nat.le_of_ble_eq_true rfl, Nat.le_of_ble_eq_true rfl⟩ rfl hl.1 rfl (Nat.le_of_ble_eq_true rfl) dX7_stoneTelling_2 ⟨Nat.le_of_ble_eq_true rfl, Nat.le_of_ble_eq_true rfl⟩) hS (fun H locs hP hS => ?_)
  refine lv_iload_n hx hb dX7_stoneTelling_5 rfl (lv_at hl 1 rfl) ?_
  obtain ⟨rfl, rfl⟩ := Prod.mk.inj (Option.some.inj hf)
  exact retW C hP hS dX7_stoneTelling_6
set_option maxHeartbeats 4000000 in
set_option maxRecDepth 100000 in
theorem c_X7_stoneTelling_2 (l : Launch) (D : va_G) (g : Nat → ClassId) (a : Nat → Nat) (hJ : Inj a 41) (M : Mem) (x1 : Int32) (r : Int32) (M' : Mem) (hf : f_X7_stoneTelling M x1 = some (r, M')) : Met l yX7_stoneTelling (cW yX7_stoneTelling cX7_stoneTelling 3 (some .int)) (rmv 1 21) (Pw D (tyL g) (wC g a M) [.ref (a 20), .int x1, .ref (a 1)]) (WrQ D (wC g a M') (inA a 41) (.int r)) 0 0 (inA a 41) := by
  unfold f_X7_stoneTelling at hf
  refine met_inW (A := (inA a 41)) (by decide) (Nat.le_of_ble_eq_true rfl) ?_
  intro p e s m args below meth c ls H locs C hP hS hl
  have C : Cx p s m args meth c cX7_stoneTelling 3 (some .int) RX7 D (tyL g) := C
  obtain ⟨hx, hb, hr, hml, hown, ht, hlocks, hK, hN⟩ := id C
  have hl : lv_has ls 3 [(0, .ref (a 20)), (1, .int x1), (2, .ref (a 1))] := hl
  refine lv_aload_n hx hb dX7_stoneTelling_0 rfl (lv_at hl 2 rfl) ?_
  refine lv_iconst (v := 1) hx hb dX7_stoneTelling_1 (by decide) ?_
  obtain ⟨M1, e_1, hf⟩ := bns hf
  refine kWv (rV (rest := []) C (c_X8_leave l D g a hJ M 1 M1 e_1) ok_X8_leave wd_694 hP 1 (aC_1 g a M) rfl ⟨rfl, rfl, Nat.le_of_ble_eq_true rfl, Nat.le_of_ble_eq_true rfl⟩ rfl hl.1 rfl (Nat.le_of_ble_eq_true rfl) dX7_stoneTelling_2 ⟨Nat.le_of_ble_eq_true rfl, Nat.le_of_ble_eq_true rfl⟩) hS (fun H locs hP hS => ?_)
  refine lv_iload_n hx hb dX7_stoneTelling_5 rfl (lv_at hl 1 rfl) ?_
  obtain ⟨rfl, rfl⟩ := Prod.mk.inj (Option.some.inj hf)
  exact retW C hP hS dX7_stoneTelling_6
set_option maxHeartbeats 4000000 in
set_option maxRecDepth 100000 in
theorem c_X7_telling_0 (l : Launch) (D : va_G) (g : Nat → ClassId) (a : Nat → Nat) (hJ : Inj a 41) (M : Mem) (x1 : Int32) (r : Int32) (M' : Mem) (hf : f_X7_telling M x1 = some (r, M')) : Met l yX7_telling (cW yX7_telling cX7_telling 3 (some .int)) (rmv 2 43) (Pw D (tyL g) (wC g a M) [.ref (a 18), .int x1, .ref (a 1)]) (WrQ D (wC g a M') (inA a 41) (.int r)) 0 0 (inA a 41) := by
  unfold f_X7_telling at hf
  refine met_inW (A := (inA a 41)) (by decide) (Nat.le_of_ble_eq_true rfl) ?_
  intro p e s m args below meth c ls H locs C hP hS hl
  have C : Cx p s m args meth c cX7_telling 3 (some .int) RX7 D (tyL g) := C
  obtain ⟨hx, hb, hr, hml, hown, ht, hlocks, hK, hN⟩ := id C
  have hl : lv_has ls 3 [(0, .ref (a 18)), (1, .int x1), (2, .ref (a 1))] := hl
  refine lv_aload_n hx hb dX7_telling_0 rfl (lv_at hl 0 rfl) ?_
  refine lv_iload_n hx hb dX7_telling_1 rfl (lv_at hl 1 rfl) ?_
  refine lv_aload_n hx hb dX7_telling_2 rfl (lv_at hl 2 rfl) ?_
  obtain ⟨q1, e_1, hf⟩ := bns hf
  refine kW (rU_7_X7_X7_stoneTelling_0 (rest := []) C (c_X7_stoneTelling_0 l D g a hJ M x1 q1.1 q1.2 e_1) hP ⟨rfl, rfl, Nat.le_of_ble_eq_true rfl, Nat.le_of_ble_eq_true rfl⟩ rfl hl.1 rfl (Nat.le_of_ble_eq_true rfl) dX7_telling_3 ⟨Nat.le_of_ble_eq_true rfl, Nat.le_of_ble_eq_true rfl⟩) hS (fun H locs hP hS => ?_)
  obtain ⟨rfl, rfl⟩ := Prod.mk.inj (Option.some.inj hf)
  exact retW C hP hS dX7_telling_6
set_option maxHeartbeats 4000000 in
set_option maxRecDepth 100000 in
theorem c_X7_telling_1 (l : Launch) (D : va_G) (g : Nat → ClassId) (a : Nat → Nat) (hJ : Inj a 41) (M : Mem) (x1 : Int32) (r : Int32) (M' : Mem) (hf : f_X7_telling M x1 = some (r, M')) : Met l yX7_telling (cW yX7_telling cX7_telling 3 (some .int)) (rmv 2 43) (Pw D (tyL g) (wC g a M) [.ref (a 19), .int x1, .ref (a 1)]) (WrQ D (wC g a M') (inA a 41) (.int r)) 0 0 (inA a 41) := by
  unfold f_X7_telling at hf
  refine met_inW (A := (inA a 41)) (by decide) (Nat.le_of_ble_eq_true rfl) ?_
  intro p e s m args below meth c ls H locs C hP hS hl
  have C : Cx p s m args meth c cX7_telling 3 (some .int) RX7 D (tyL g) := C
  obtain ⟨hx, hb, hr, hml, hown, ht, hlocks, hK, hN⟩ := id C
  have hl : lv_has ls 3 [(0, .ref (a 19)), (1, .int x1), (2, .ref (a 1))] := hl
  refine lv_aload_n hx hb dX7_telling_0 rfl (lv_at hl 0 rfl) ?_
  refine lv_iload_n hx hb dX7_telling_1 rfl (lv_at hl 1 rfl) ?_
  refine lv_aload_n hx hb dX7_telling_2 rfl (lv_at hl 2 rfl) ?_
  obtain ⟨q1, e_1, hf⟩ := bns hf
  refine kW (rU_7_X7_X7_stoneTelling_1 (rest := []) C (c_X7_stoneTelling_1 l D g a hJ M x1 q1.1 q1.2 e_1) hP ⟨rfl, rfl, Nat.le_of_ble_eq_true rfl, Nat.le_of_ble_eq_true rfl⟩ rfl hl.1 rfl (Nat.le_of_ble_eq_true rfl) dX7_telling_3 ⟨Nat.le_of_ble_eq_true rfl, Nat.le_of_ble_eq_true rfl⟩) hS (fun H locs hP hS => ?_)
  obtain ⟨rfl, rfl⟩ := Prod.mk.inj (Option.some.inj hf)
  exact retW C hP hS dX7_telling_6
set_option maxHeartbeats 4000000 in
set_option maxRecDepth 100000 in
theorem c_X7_telling_2 (l : Launch) (D : va_G) (g : Nat → ClassId) (a : Nat → Nat) (hJ : Inj a 41) (M : Mem) (x1 : Int32) (r : Int32) (M' : Mem) (hf : f_X7_telling M x1 = some (r, M')) : Met l yX7_telling (cW yX7_telling cX7_telling 3 (some .int)) (rmv 2 43) (Pw D (tyL g) (wC g a M) [.ref (a 20), .int x1, .ref (a 1)]) (WrQ D (wC g a M') (inA a 41) (.int r)) 0 0 (inA a 41) := by
  unfold f_X7_telling at hf
  refine met_inW (A := (inA a 41)) (by decide) (Nat.le_of_ble_eq_true rfl) ?_
  intro p e s m args below meth c ls H locs C hP hS hl
  have C : Cx p s m args meth c cX7_telling 3 (some .int) RX7 D (tyL g) := C
  obtain ⟨hx, hb, hr, hml, hown, ht, hlocks, hK, hN⟩ := id C
  have hl : lv_has ls 3 [(0, .ref (a 20)), (1, .int x1), (2, .ref (a 1))] := hl
  refine lv_aload_n hx hb dX7_telling_0 rfl (lv_at hl 0 rfl) ?_
  refine lv_iload_n hx hb dX7_telling_1 rfl (lv_at hl 1 rfl) ?_
  refine lv_aload_n hx hb dX7_telling_2 rfl (lv_at hl 2 rfl) ?_
  obtain ⟨q1, e_1, hf⟩ := bns hf
  refine kW (rU_7_X7_X7_stoneTelling_2 (rest := []) C (c_X7_stoneTelling_2 l D g a hJ M x1 q1.1 q1.2 e_1) hP ⟨rfl, rfl, Nat.le_of_ble_eq_true rfl, Nat.le_of_ble_eq_true rfl⟩ rfl hl.1 rfl (Nat.le_of_ble_eq_true rfl) dX7_telling_3 ⟨Nat.le_of_ble_eq_true rfl, Nat.le_of_ble_eq_true rfl⟩) hS (fun H locs hP hS => ?_)
  obtain ⟨rfl, rfl⟩ := Prod.mk.inj (Option.some.inj hf)
  exact retW C hP hS dX7_telling_6
set_option maxHeartbeats 4000000 in
set_option maxRecDepth 100000 in
theorem c_X0_telling_1 (l : Launch) (D : va_G) (g : Nat → ClassId) (a : Nat → Nat) (hJ : Inj a 41) (M : Mem) (x1 : Int32) (r : Int32) (M' : Mem) (hf : f_X0_telling M x1 = some (r, M')) : Met l yX0_telling (cW yX0_telling cX0_telling 3 (some .int)) (rmv 3 65) (Pw D (tyL g) (wC g a M) [.ref (a 19), .int x1, .ref (a 1)]) (WrQ D (wC g a M') (inA a 41) (.int r)) 0 0 (inA a 41) := by
  unfold f_X0_telling at hf
  refine met_inW (A := (inA a 41)) (by decide) (Nat.le_of_ble_eq_true rfl) ?_
  intro p e s m args below meth c ls H locs C hP hS hl
  have C : Cx p s m args meth c cX0_telling 3 (some .int) RX0 D (tyL g) := C
  obtain ⟨hx, hb, hr, hml, hown, ht, hlocks, hK, hN⟩ := id C
  have hl : lv_has ls 3 [(0, .ref (a 19)), (1, .int x1), (2, .ref (a 1))] := hl
  refine lv_aload_n hx hb dX0_telling_0 rfl (lv_at hl 2 rfl) ?_
  refine lv_iconst (v := 2) hx hb dX0_telling_1 (by decide) ?_
  obtain ⟨M1, e_1, hf⟩ := bns hf
  refine kWv (rV (rest := []) C (c_X8_leave l D g a hJ M 2 M1 e_1) ok_X8_leave wd_678 hP 1 (aC_1 g a M) rfl ⟨rfl, rfl, Nat.le_of_ble_eq_true rfl, Nat.le_of_ble_eq_true rfl⟩ rfl hl.1 rfl (Nat.le_of_ble_eq_true rfl) dX0_telling_2 ⟨Nat.le_of_ble_eq_true rfl, Nat.le_of_ble_eq_true rfl⟩) hS (fun H locs hP hS => ?_)
  refine lv_aload_n hx hb dX0_telling_5 rfl (lv_at hl 0 rfl) ?_
  refine lv_iload_n hx hb dX0_telling_6 rfl (lv_at hl 1 rfl) ?_
  refine lv_aload_n hx hb dX0_telling_7 rfl (lv_at hl 2 rfl) ?_
  obtain ⟨q2, e_2, hf⟩ := bns hf
  refine kW (rP_13_X0_X7_telling_1 (rest := []) C (c_X7_telling_1 l D g a hJ M1 x1 q2.1 q2.2 e_2) hP ⟨rfl, rfl, Nat.le_of_ble_eq_true rfl, Nat.le_of_ble_eq_true rfl⟩ rfl hl.1 rfl (Nat.le_of_ble_eq_true rfl) dX0_telling_8 ⟨Nat.le_of_ble_eq_true rfl, Nat.le_of_ble_eq_true rfl⟩) hS (fun H locs hP hS => ?_)
  refine lv_bipush (v := 100) hx hb dX0_telling_11 (by decide) ?_
  refine lv_iadd hx hb dX0_telling_13 ?_
  obtain ⟨rfl, rfl⟩ := Prod.mk.inj (Option.some.inj hf)
  exact retW C hP hS dX0_telling_14
set_option maxHeartbeats 4000000 in
set_option maxRecDepth 100000 in
theorem c_X0_telling_2 (l : Launch) (D : va_G) (g : Nat → ClassId) (a : Nat → Nat) (hJ : Inj a 41) (M : Mem) (x1 : Int32) (r : Int32) (M' : Mem) (hf : f_X0_telling M x1 = some (r, M')) : Met l yX0_telling (cW yX0_telling cX0_telling 3 (some .int)) (rmv 3 65) (Pw D (tyL g) (wC g a M) [.ref (a 20), .int x1, .ref (a 1)]) (WrQ D (wC g a M') (inA a 41) (.int r)) 0 0 (inA a 41) := by
  unfold f_X0_telling at hf
  refine met_inW (A := (inA a 41)) (by decide) (Nat.le_of_ble_eq_true rfl) ?_
  intro p e s m args below meth c ls H locs C hP hS hl
  have C : Cx p s m args meth c cX0_telling 3 (some .int) RX0 D (tyL g) := C
  obtain ⟨hx, hb, hr, hml, hown, ht, hlocks, hK, hN⟩ := id C
  have hl : lv_has ls 3 [(0, .ref (a 20)), (1, .int x1), (2, .ref (a 1))] := hl
  refine lv_aload_n hx hb dX0_telling_0 rfl (lv_at hl 2 rfl) ?_
  refine lv_iconst (v := 2) hx hb dX0_telling_1 (by decide) ?_
  obtain ⟨M1, e_1, hf⟩ := bns hf
  refine kWv (rV (rest := []) C (c_X8_leave l D g a hJ M 2 M1 e_1) ok_X8_leave wd_678 hP 1 (aC_1 g a M) rfl ⟨rfl, rfl, Nat.le_of_ble_eq_true rfl, Nat.le_of_ble_eq_true rfl⟩ rfl hl.1 rfl (Nat.le_of_ble_eq_true rfl) dX0_telling_2 ⟨Nat.le_of_ble_eq_true rfl, Nat.le_of_ble_eq_true rfl⟩) hS (fun H locs hP hS => ?_)
  refine lv_aload_n hx hb dX0_telling_5 rfl (lv_at hl 0 rfl) ?_
  refine lv_iload_n hx hb dX0_telling_6 rfl (lv_at hl 1 rfl) ?_
  refine lv_aload_n hx hb dX0_telling_7 rfl (lv_at hl 2 rfl) ?_
  obtain ⟨q2, e_2, hf⟩ := bns hf
  refine kW (rP_13_X0_X7_telling_2 (rest := []) C (c_X7_telling_2 l D g a hJ M1 x1 q2.1 q2.2 e_2) hP ⟨rfl, rfl, Nat.le_of_ble_eq_true rfl, Nat.le_of_ble_eq_true rfl⟩ rfl hl.1 rfl (Nat.le_of_ble_eq_true rfl) dX0_telling_8 ⟨Nat.le_of_ble_eq_true rfl, Nat.le_of_ble_eq_true rfl⟩) hS (fun H locs hP hS => ?_)
  refine lv_bipush (v := 100) hx hb dX0_telling_11 (by decide) ?_
  refine lv_iadd hx hb dX0_telling_13 ?_
  obtain ⟨rfl, rfl⟩ := Prod.mk.inj (Option.some.inj hf)
  exact retW C hP hS dX0_telling_14
set_option maxHeartbeats 4000000 in
set_option maxRecDepth 100000 in
theorem c_X1_telling_2 (l : Launch) (D : va_G) (g : Nat → ClassId) (a : Nat → Nat) (hJ : Inj a 41) (M : Mem) (x1 : Int32) (r : Int32) (M' : Mem) (hf : f_X1_telling M x1 = some (r, M')) : Met l yX1_telling (cW yX1_telling cX1_telling 4 (some .int)) (rmv 4 87) (Pw D (tyL g) (wC g a M) [.ref (a 20), .int x1, .ref (a 1)]) (WrQ D (wC g a M') (inA a 41) (.int r)) 0 0 (inA a 41) := by
  unfold f_X1_telling at hf
  refine met_inW (A := (inA a 41)) (by decide) (Nat.le_of_ble_eq_true rfl) ?_
  intro p e s m args below meth c ls H locs C hP hS hl
  have C : Cx p s m args meth c cX1_telling 4 (some .int) RX1 D (tyL g) := C
  obtain ⟨hx, hb, hr, hml, hown, ht, hlocks, hK, hN⟩ := id C
  have hl : lv_has ls 4 [(0, .ref (a 20)), (1, .int x1), (2, .ref (a 1))] := hl
  refine lv_aload_n hx hb dX1_telling_0 rfl (lv_at hl 2 rfl) ?_
  refine lv_iconst (v := 3) hx hb dX1_telling_1 (by decide) ?_
  obtain ⟨M1, e_1, hf⟩ := bns hf
  refine kWv (rV (rest := []) C (c_X8_leave l D g a hJ M 3 M1 e_1) ok_X8_leave wd_686 hP 1 (aC_1 g a M) rfl ⟨rfl, rfl, Nat.le_of_ble_eq_true rfl, Nat.le_of_ble_eq_true rfl⟩ rfl hl.1 rfl (Nat.le_of_ble_eq_true rfl) dX1_telling_2 ⟨Nat.le_of_ble_eq_true rfl, Nat.le_of_ble_eq_true rfl⟩) hS (fun H locs hP hS => ?_)
  refine lv_aload_n hx hb dX1_telling_5 rfl (lv_at hl 0 rfl) ?_
  refine lv_iload_n hx hb dX1_telling_6 rfl (lv_at hl 1 rfl) ?_
  refine lv_aload_n hx hb dX1_telling_7 rfl (lv_at hl 2 rfl) ?_
  obtain ⟨q2, e_2, hf⟩ := bns hf
  refine kW (rP_17_X1_X0_telling_2 (rest := []) C (c_X0_telling_2 l D g a hJ M1 x1 q2.1 q2.2 e_2) hP ⟨rfl, rfl, Nat.le_of_ble_eq_true rfl, Nat.le_of_ble_eq_true rfl⟩ rfl hl.1 rfl (Nat.le_of_ble_eq_true rfl) dX1_telling_8 ⟨Nat.le_of_ble_eq_true rfl, Nat.le_of_ble_eq_true rfl⟩) hS (fun H locs hP hS => ?_)
  refine lv_istore_n (lv' := [(3, .int q2.1), (0, .ref (a 20)), (1, .int x1), (2, .ref (a 1))]) hx hb dX1_telling_11 rfl hl (by decide) rfl (fun ls hl => ?_)
  refine lv_iload_n hx hb dX1_telling_12 rfl (lv_at hl 0 rfl) ?_
  refine lv_aload_n hx hb dX1_telling_13 rfl (lv_at hl 1 rfl) ?_
  refine lv_iload_n hx hb dX1_telling_14 rfl (lv_at hl 2 rfl) ?_
  refine lv_aload_n hx hb dX1_telling_15 rfl (lv_at hl 3 rfl) ?_
  obtain ⟨q3, e_3, hf⟩ := bns hf
  refine kW (rU_21_X1_X7_stoneTelling_2 (rest := [.int q2.1]) C (c_X7_stoneTelling_2 l D g a hJ q2.2 x1 q3.1 q3.2 e_3) hP ⟨rfl, rfl, Nat.le_of_ble_eq_true rfl, Nat.le_of_ble_eq_true rfl⟩ rfl hl.1 rfl (Nat.le_of_ble_eq_true rfl) dX1_telling_16 ⟨Nat.le_of_ble_eq_true rfl, Nat.le_of_ble_eq_true rfl⟩) hS (fun H locs hP hS => ?_)
  refine lv_iadd hx hb dX1_telling_19 ?_
  obtain ⟨rfl, rfl⟩ := Prod.mk.inj (Option.some.inj hf)
  exact retW C hP hS dX1_telling_20
set_option maxHeartbeats 4000000 in
set_option maxRecDepth 100000 in
theorem c_X7_trodden_0 (l : Launch) (D : va_G) (g : Nat → ClassId) (a : Nat → Nat) (hJ : Inj a 41) (M : Mem) (x1 : Int32) (r : Int32) (M' : Mem) (hf : f_X7_trodden M x1 = some (r, M')) : Met l yX7_trodden (cW yX7_trodden cX7_trodden 3 (some .int)) (rmv 1 21) (Pw D (tyL g) (wC g a M) [.ref (a 18), .int x1, .ref (a 1)]) (WrQ D (wC g a M') (inA a 41) (.int r)) 0 0 (inA a 41) := by
  unfold f_X7_trodden at hf
  refine met_inW (A := (inA a 41)) (by decide) (Nat.le_of_ble_eq_true rfl) ?_
  intro p e s m args below meth c ls H locs C hP hS hl
  have C : Cx p s m args meth c cX7_trodden 3 (some .int) RX7 D (tyL g) := C
  obtain ⟨hx, hb, hr, hml, hown, ht, hlocks, hK, hN⟩ := id C
  have hl : lv_has ls 3 [(0, .ref (a 18)), (1, .int x1), (2, .ref (a 1))] := hl
  refine lv_aload_n hx hb dX7_trodden_0 rfl (lv_at hl 2 rfl) ?_
  refine lv_iconst (v := 4) hx hb dX7_trodden_1 (by decide) ?_
  obtain ⟨M1, e_1, hf⟩ := bns hf
  refine kWv (rV (rest := []) C (c_X8_leave l D g a hJ M 4 M1 e_1) ok_X8_leave wd_694 hP 1 (aC_1 g a M) rfl ⟨rfl, rfl, Nat.le_of_ble_eq_true rfl, Nat.le_of_ble_eq_true rfl⟩ rfl hl.1 rfl (Nat.le_of_ble_eq_true rfl) dX7_trodden_2 ⟨Nat.le_of_ble_eq_true rfl, Nat.le_of_ble_eq_true rfl⟩) hS (fun H locs hP hS => ?_)
  refine lv_iload_n hx hb dX7_trodden_5 rfl (lv_at hl 1 rfl) ?_
  obtain ⟨rfl, rfl⟩ := Prod.mk.inj (Option.some.inj hf)
  exact retW C hP hS dX7_trodden_6
set_option maxHeartbeats 4000000 in
set_option maxRecDepth 100000 in
theorem c_X7_trodden_1 (l : Launch) (D : va_G) (g : Nat → ClassId) (a : Nat → Nat) (hJ : Inj a 41) (M : Mem) (x1 : Int32) (r : Int32) (M' : Mem) (hf : f_X7_trodden M x1 = some (r, M')) : Met l yX7_trodden (cW yX7_trodden cX7_trodden 3 (some .int)) (rmv 1 21) (Pw D (tyL g) (wC g a M) [.ref (a 19), .int x1, .ref (a 1)]) (WrQ D (wC g a M') (inA a 41) (.int r)) 0 0 (inA a 41) := by
  unfold f_X7_trodden at hf
  refine met_inW (A := (inA a 41)) (by decide) (Nat.le_of_ble_eq_true rfl) ?_
  intro p e s m args below meth c ls H locs C hP hS hl
  have C : Cx p s m args meth c cX7_trodden 3 (some .int) RX7 D (tyL g) := C
  obtain ⟨hx, hb, hr, hml, hown, ht, hlocks, hK, hN⟩ := id C
  have hl : lv_has ls 3 [(0, .ref (a 19)), (1, .int x1), (2, .ref (a 1))] := hl
  refine lv_aload_n hx hb dX7_trodden_0 rfl (lv_at hl 2 rfl) ?_
  refine lv_iconst (v := 4) hx hb dX7_trodden_1 (by decide) ?_
  obtain ⟨M1, e_1, hf⟩ := bns hf
  refine kWv (rV (rest := []) C (c_X8_leave l D g a hJ M 4 M1 e_1) ok_X8_leave wd_694 hP 1 (aC_1 g a M) rfl ⟨rfl, rfl, Nat.le_of_ble_eq_true rfl, Nat.le_of_ble_eq_true rfl⟩ rfl hl.1 rfl (Nat.le_of_ble_eq_true rfl) dX7_trodden_2 ⟨Nat.le_of_ble_eq_true rfl, Nat.le_of_ble_eq_true rfl⟩) hS (fun H locs hP hS => ?_)
  refine lv_iload_n hx hb dX7_trodden_5 rfl (lv_at hl 1 rfl) ?_
  obtain ⟨rfl, rfl⟩ := Prod.mk.inj (Option.some.inj hf)
  exact retW C hP hS dX7_trodden_6
set_option maxHeartbeats 4000000 in
set_option maxRecDepth 100000 in
theorem c_X1_trodden_2 (l : Launch) (D : va_G) (g : Nat → ClassId) (a : Nat → Nat) (hJ : Inj a 41) (M : Mem) (x1 : Int32) (r : Int32) (M' : Mem) (hf : f_X1_trodden M x1 = some (r, M')) : Met l yX1_trodden (cW yX1_trodden cX1_trodden 3 (some .int)) (rmv 1 21) (Pw D (tyL g) (wC g a M) [.ref (a 20), .int x1, .ref (a 1)]) (WrQ D (wC g a M') (inA a 41) (.int r)) 0 0 (inA a 41) := by
  unfold f_X1_trodden at hf
  refine met_inW (A := (inA a 41)) (by decide) (Nat.le_of_ble_eq_true rfl) ?_
  intro p e s m args below meth c ls H locs C hP hS hl
  have C : Cx p s m args meth c cX1_trodden 3 (some .int) RX1 D (tyL g) := C
  obtain ⟨hx, hb, hr, hml, hown, ht, hlocks, hK, hN⟩ := id C
  have hl : lv_has ls 3 [(0, .ref (a 20)), (1, .int x1), (2, .ref (a 1))] := hl
  refine lv_aload_n hx hb dX1_trodden_0 rfl (lv_at hl 2 rfl) ?_
  refine lv_iconst (v := 5) hx hb dX1_trodden_1 (by decide) ?_
  obtain ⟨M1, e_1, hf⟩ := bns hf
  refine kWv (rV (rest := []) C (c_X8_leave l D g a hJ M 5 M1 e_1) ok_X8_leave wd_686 hP 1 (aC_1 g a M) rfl ⟨rfl, rfl, Nat.le_of_ble_eq_true rfl, Nat.le_of_ble_eq_true rfl⟩ rfl hl.1 rfl (Nat.le_of_ble_eq_true rfl) dX1_trodden_2 ⟨Nat.le_of_ble_eq_true rfl, Nat.le_of_ble_eq_true rfl⟩) hS (fun H locs hP hS => ?_)
  refine lv_bipush (v := 50) hx hb dX1_trodden_5 (by decide) ?_
  obtain ⟨rfl, rfl⟩ := Prod.mk.inj (Option.some.inj hf)
  exact retW C hP hS dX1_trodden_7
set_option maxHeartbeats 4000000 in
set_option maxRecDepth 100000 in
theorem c_X12_within (l : Launch) (D : va_G) (tys : List (ClassId × FieldType)) (w : va_W) (x0 : Int32) (x1 : Int32) (x2 : Int32) (r : Int32) (hf : f_X12_within x0 x1 x2 = some r) : Met l yX12_within (cW yX12_within cX12_within 3 (some .boolean)) (rmv 0 0) (Pw D tys w [.int x0, .int x1, .int x2]) (RdQ (.int r)) 0 0 nof := by
  unfold f_X12_within at hf
  refine met_in (by decide) (Nat.le_of_ble_eq_true rfl) ?_
  intro p e s m args below meth c ls C hP hl
  have C : Cx p s m args meth c cX12_within 3 (some .boolean) RX12 D tys := C
  obtain ⟨hx, hb, hr, hml, hown, ht, hlocks, hK, hN⟩ := id C
  have hl : lv_has ls 3 [(0, .int x0), (1, .int x1), (2, .int x2)] := hl
  refine lv_iload_n hx hb dX12_within_0 rfl (lv_at hl 0 rfl) ?_
  refine lv_iload_n hx hb dX12_within_1 rfl (lv_at hl 1 rfl) ?_
  refine lv_icmp_lt (tgt := 14) hx hb dX12_within_2 (by decide) (fun c_1 => ?_) (fun c_1 => ?_)
  · have hf := ifp c_1 hf
    refine lv_iconst (v := 0) hx hb dX12_within_14 (by decide) ?_
    obtain rfl := Option.some.inj hf
    exact retRz C (Or.inl rfl) dX12_within_15
  · have hf := ifn c_1 hf
    refine lv_iload_n hx hb dX12_within_5 rfl (lv_at hl 0 rfl) ?_
    refine lv_iload_n hx hb dX12_within_6 rfl (lv_at hl 2 rfl) ?_
    refine lv_icmp_gt (tgt := 14) hx hb dX12_within_7 (by decide) (fun c_2 => ?_) (fun c_2 => ?_)
    · have hf := ifp c_2 hf
      refine lv_iconst (v := 0) hx hb dX12_within_14 (by decide) ?_
      obtain rfl := Option.some.inj hf
      exact retRz C (Or.inl rfl) dX12_within_15
    · have hf := ifn c_2 hf
      refine lv_iconst (v := 1) hx hb dX12_within_10 (by decide) ?_
      refine lv_goto (tgt := 15) hx hb dX12_within_11 (by decide) ?_
      obtain rfl := Option.some.inj hf
      exact retRz C (Or.inr rfl) dX12_within_15
set_option maxHeartbeats 4000000 in
set_option maxRecDepth 100000 in
theorem c_X12_isSheet (l : Launch) (D : va_G) (tys : List (ClassId × FieldType)) (w : va_W) (x0 : Int32) (r : Int32) (hf : f_X12_isSheet x0 = some r) : Met l yX12_isSheet (cW yX12_isSheet cX12_isSheet 1 (some .boolean)) (rmv 1 22) (Pw D tys w [.int x0]) (RdQ (.int r)) 0 0 nof := by
  unfold f_X12_isSheet at hf
  refine met_in (by decide) (Nat.le_of_ble_eq_true rfl) ?_
  intro p e s m args below meth c ls C hP hl
  have C : Cx p s m args meth c cX12_isSheet 1 (some .boolean) RX12 D tys := C
  obtain ⟨hx, hb, hr, hml, hown, ht, hlocks, hK, hN⟩ := id C
  have hl : lv_has ls 1 [(0, .int x0)] := hl
  refine lv_iload_n hx hb dX12_isSheet_0 rfl (lv_at hl 0 rfl) ?_
  refine lv_iconst (v := 0) hx hb dX12_isSheet_1 (by decide) ?_
  refine lv_iconst (v := 3) hx hb dX12_isSheet_2 (by decide) ?_
  obtain ⟨r1, e_1, hf⟩ := bns hf
  refine kR (rS (rest := []) C (c_X12_within l D tys w x0 0 3 r1 e_1) ok_X12_within wd_816 hP ⟨rfl, rfl, Nat.le_of_ble_eq_true rfl, Nat.le_of_ble_eq_true rfl⟩ rfl hl.1 rfl (Nat.le_of_ble_eq_true rfl) dX12_isSheet_3 ⟨Nat.le_of_ble_eq_true rfl, Nat.le_of_ble_eq_true rfl⟩) ?_
  obtain ⟨h_2, hf⟩ := ifs hf
  obtain rfl := Option.some.inj hf
  exact retRz C h_2 dX12_isSheet_6
set_option maxHeartbeats 4000000 in
set_option maxRecDepth 100000 in
theorem c_X12_isSort (l : Launch) (D : va_G) (tys : List (ClassId × FieldType)) (w : va_W) (x0 : Int32) (r : Int32) (hf : f_X12_isSort x0 = some r) : Met l yX12_isSort (cW yX12_isSort cX12_isSort 1 (some .boolean)) (rmv 1 22) (Pw D tys w [.int x0]) (RdQ (.int r)) 0 0 nof := by
  unfold f_X12_isSort at hf
  refine met_in (by decide) (Nat.le_of_ble_eq_true rfl) ?_
  intro p e s m args below meth c ls C hP hl
  have C : Cx p s m args meth c cX12_isSort 1 (some .boolean) RX12 D tys := C
  obtain ⟨hx, hb, hr, hml, hown, ht, hlocks, hK, hN⟩ := id C
  have hl : lv_has ls 1 [(0, .int x0)] := hl
  refine lv_iload_n hx hb dX12_isSort_0 rfl (lv_at hl 0 rfl) ?_
  refine lv_iconst (v := 0) hx hb dX12_isSort_1 (by decide) ?_
  refine lv_iconst (v := 2) hx hb dX12_isSort_2 (by decide) ?_
  obtain ⟨r1, e_1, hf⟩ := bns hf
  refine kR (rS (rest := []) C (c_X12_within l D tys w x0 0 2 r1 e_1) ok_X12_within wd_816 hP ⟨rfl, rfl, Nat.le_of_ble_eq_true rfl, Nat.le_of_ble_eq_true rfl⟩ rfl hl.1 rfl (Nat.le_of_ble_eq_true rfl) dX12_isSort_3 ⟨Nat.le_of_ble_eq_true rfl, Nat.le_of_ble_eq_true rfl⟩) ?_
  obtain ⟨h_2, hf⟩ := ifs hf
  obtain rfl := Option.some.inj hf
  exact retRz C h_2 dX12_isSort_6
set_option maxHeartbeats 4000000 in
set_option maxRecDepth 100000 in
theorem c_X12_isMonth (l : Launch) (D : va_G) (tys : List (ClassId × FieldType)) (w : va_W) (x0 : Int32) (r : Int32) (hf : f_X12_isMonth x0 = some r) : Met l yX12_isMonth (cW yX12_isMonth cX12_isMonth 1 (some .boolean)) (rmv 1 22) (Pw D tys w [.int x0]) (RdQ (.int r)) 0 0 nof := by
  unfold f_X12_isMonth at hf
  refine met_in (by decide) (Nat.le_of_ble_eq_true rfl) ?_
  intro p e s m args below meth c ls C hP hl
  have C : Cx p s m args meth c cX12_isMonth 1 (some .boolean) RX12 D tys := C
  obtain ⟨hx, hb, hr, hml, hown, ht, hlocks, hK, hN⟩ := id C
  have hl : lv_has ls 1 [(0, .int x0)] := hl
  refine lv_iload_n hx hb dX12_isMonth_0 rfl (lv_at hl 0 rfl) ?_
  refine lv_iconst (v := 0) hx hb dX12_isMonth_1 (by decide) ?_
  refine lv_bipush (v := 11) hx hb dX12_isMonth_2 (by decide) ?_
  obtain ⟨r1, e_1, hf⟩ := bns hf
  refine kR (rS (rest := []) C (c_X12_within l D tys w x0 0 11 r1 e_1) ok_X12_within wd_816 hP ⟨rfl, rfl, Nat.le_of_ble_eq_true rfl, Nat.le_of_ble_eq_true rfl⟩ rfl hl.1 rfl (Nat.le_of_ble_eq_true rfl) dX12_isMonth_4 ⟨Nat.le_of_ble_eq_true rfl, Nat.le_of_ble_eq_true rfl⟩) ?_
  obtain ⟨h_2, hf⟩ := ifs hf
  obtain rfl := Option.some.inj hf
  exact retRz C h_2 dX12_isMonth_7
set_option maxHeartbeats 4000000 in
set_option maxRecDepth 100000 in
theorem c_X12_size (l : Launch) (D : va_G) (tys : List (ClassId × FieldType)) (w : va_W) (x0 : Int32) (r : Int32) (hf : f_X12_size x0 = some r) : Met l yX12_size (cW yX12_size cX12_size 1 (some .int)) (rmv 0 0) (Pw D tys w [.int x0]) (RdQ (.int r)) 0 0 nof := by
  unfold f_X12_size at hf
  refine met_in (by decide) (Nat.le_of_ble_eq_true rfl) ?_
  intro p e s m args below meth c ls C hP hl
  have C : Cx p s m args meth c cX12_size 1 (some .int) RX12 D tys := C
  obtain ⟨hx, hb, hr, hml, hown, ht, hlocks, hK, hN⟩ := id C
  have hl : lv_has ls 1 [(0, .int x0)] := hl
  refine lv_iload_n hx hb dX12_size_0 rfl (lv_at hl 0 rfl) ?_
  refine lv_if_ge (tgt := 9) hx hb dX12_size_1 (by decide) (fun c_1 => ?_) (fun c_1 => ?_)
  · have hf := ifp c_1 hf
    refine lv_iload_n hx hb dX12_size_9 rfl (lv_at hl 0 rfl) ?_
    obtain rfl := Option.some.inj hf
    exact retR C dX12_size_10
  · have hf := ifn c_1 hf
    refine lv_iload_n hx hb dX12_size_4 rfl (lv_at hl 0 rfl) ?_
    refine lv_ineg hx hb dX12_size_5 ?_
    refine lv_goto (tgt := 10) hx hb dX12_size_6 (by decide) ?_
    obtain rfl := Option.some.inj hf
    exact retR C dX12_size_10
