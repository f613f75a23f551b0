section
-- ===== PART A: goes FIRST, ahead of the names: the tables' words, and 'selects' of the private methods out of them =====
/-- a private method of a class that the tables say can be made, by its rows of tables_1 -/
def lw_okq (q : MethodName × Nat) : Prop := (q.1.cls ≠ "java/lang/invoke/MethodHandle" ∧ q.1.cls ≠ "java/lang/invoke/VarHandle") ∧ Cond.instantiable q.1.cls q.2 ∈ tables_1 ∧ Cond.privateMethod q.1 ∈ tables_1 ∧ Cond.instanceMethod q.1 ∈ tables_1
theorem lw_p0 : lw_okq (⟨"BreathSquare", "failed", "(I)I"⟩, 9) := ⟨⟨by decide +kernel, by decide +kernel⟩, List.mem_of_getElem? (i := 17) (by decide +kernel), List.mem_of_getElem? (i := 280) (by decide +kernel), List.mem_of_getElem? (i := 281) (by decide +kernel)⟩
theorem lw_p1 : lw_okq (⟨"BreathSquare$Ways", "apartTo", "(II)I"⟩, 6) := ⟨⟨by decide +kernel, by decide +kernel⟩, List.mem_of_getElem? (i := 105) (by decide +kernel), List.mem_of_getElem? (i := 397) (by decide +kernel), List.mem_of_getElem? (i := 398) (by decide +kernel)⟩
theorem lw_p2 : lw_okq (⟨"BreathSquare$Ways", "stepAt", "(III)I"⟩, 6) := ⟨⟨by decide +kernel, by decide +kernel⟩, List.mem_of_getElem? (i := 105) (by decide +kernel), List.mem_of_getElem? (i := 411) (by decide +kernel), List.mem_of_getElem? (i := 412) (by decide +kernel)⟩
theorem lw_p3 : lw_okq (⟨"BreathSquare$Ways", "nextOnWay", "(II)I"⟩, 6) := ⟨⟨by decide +kernel, by decide +kernel⟩, List.mem_of_getElem? (i := 105) (by decide +kernel), List.mem_of_getElem? (i := 419) (by decide +kernel), List.mem_of_getElem? (i := 420) (by decide +kernel)⟩
theorem lw_p4 : lw_okq (⟨"BreathSquare$Ways", "leastByNeighbours", "(I)I"⟩, 6) := ⟨⟨by decide +kernel, by decide +kernel⟩, List.mem_of_getElem? (i := 105) (by decide +kernel), List.mem_of_getElem? (i := 436) (by decide +kernel), List.mem_of_getElem? (i := 437) (by decide +kernel)⟩
theorem lw_p5 : lw_okq (⟨"BreathSquare", "refusalOf", "(IZ)I"⟩, 9) := ⟨⟨by decide +kernel, by decide +kernel⟩, List.mem_of_getElem? (i := 17) (by decide +kernel), List.mem_of_getElem? (i := 466) (by decide +kernel), List.mem_of_getElem? (i := 467) (by decide +kernel)⟩
theorem lw_p6 : lw_okq (⟨"BreathSquare$Places", "areClear", "(II)Z"⟩, 6) := ⟨⟨by decide +kernel, by decide +kernel⟩, List.mem_of_getElem? (i := 131) (by decide +kernel), List.mem_of_getElem? (i := 485) (by decide +kernel), List.mem_of_getElem? (i := 486) (by decide +kernel)⟩
theorem lw_p7 : lw_okq (⟨"BreathSquare$Places", "takePair", "(III)V"⟩, 6) := ⟨⟨by decide +kernel, by decide +kernel⟩, List.mem_of_getElem? (i := 131) (by decide +kernel), List.mem_of_getElem? (i := 490) (by decide +kernel), List.mem_of_getElem? (i := 491) (by decide +kernel)⟩
theorem lw_p8 : lw_okq (⟨"BreathSquare$Places", "sizeOf", "(II)I"⟩, 6) := ⟨⟨by decide +kernel, by decide +kernel⟩, List.mem_of_getElem? (i := 131) (by decide +kernel), List.mem_of_getElem? (i := 502) (by decide +kernel), List.mem_of_getElem? (i := 503) (by decide +kernel)⟩
theorem lw_p9 : lw_okq (⟨"BreathSquare$Places", "spread", "(II)I"⟩, 6) := ⟨⟨by decide +kernel, by decide +kernel⟩, List.mem_of_getElem? (i := 131) (by decide +kernel), List.mem_of_getElem? (i := 506) (by decide +kernel), List.mem_of_getElem? (i := 507) (by decide +kernel)⟩
theorem lw_p10 : lw_okq (⟨"BreathSquare$Water", "lowestBeside", "(I)I"⟩, 3) := ⟨⟨by decide +kernel, by decide +kernel⟩, List.mem_of_getElem? (i := 159) (by decide +kernel), List.mem_of_getElem? (i := 530) (by decide +kernel), List.mem_of_getElem? (i := 531) (by decide +kernel)⟩
theorem lw_p11 : lw_okq (⟨"BreathSquare$Mason", "putInOrder", "(I)V"⟩, 2) := ⟨⟨by decide +kernel, by decide +kernel⟩, List.mem_of_getElem? (i := 175) (by decide +kernel), List.mem_of_getElem? (i := 586) (by decide +kernel), List.mem_of_getElem? (i := 587) (by decide +kernel)⟩
theorem lw_p12 : lw_okq (⟨"BreathSquare$Readings", "areAllSo", "(II)Z"⟩, 5) := ⟨⟨by decide +kernel, by decide +kernel⟩, List.mem_of_getElem? (i := 188) (by decide +kernel), List.mem_of_getElem? (i := 618) (by decide +kernel), List.mem_of_getElem? (i := 619) (by decide +kernel)⟩
theorem lw_p13 : lw_okq (⟨"BreathSquareModel", "against", "(IIII)I"⟩, 25) := ⟨⟨by decide +kernel, by decide +kernel⟩, List.mem_of_getElem? (i := 727) (by decide +kernel), List.mem_of_getElem? (i := 823) (by decide +kernel), List.mem_of_getElem? (i := 824) (by decide +kernel)⟩
theorem lw_p14 : lw_okq (⟨"BreathSquareModel", "fails", "(I)I"⟩, 25) := ⟨⟨by decide +kernel, by decide +kernel⟩, List.mem_of_getElem? (i := 727) (by decide +kernel), List.mem_of_getElem? (i := 827) (by decide +kernel), List.mem_of_getElem? (i := 828) (by decide +kernel)⟩
theorem lw_p15 : lw_okq (⟨"BreathSquareModel", "readSquare", "(I)Z"⟩, 25) := ⟨⟨by decide +kernel, by decide +kernel⟩, List.mem_of_getElem? (i := 727) (by decide +kernel), List.mem_of_getElem? (i := 831) (by decide +kernel), List.mem_of_getElem? (i := 832) (by decide +kernel)⟩
def lw_privs_1 : List (MethodName × Nat) := [(⟨"BreathSquare", "failed", "(I)I"⟩, 9), (⟨"BreathSquare$Ways", "apartTo", "(II)I"⟩, 6), (⟨"BreathSquare$Ways", "stepAt", "(III)I"⟩, 6), (⟨"BreathSquare$Ways", "nextOnWay", "(II)I"⟩, 6), (⟨"BreathSquare$Ways", "leastByNeighbours", "(I)I"⟩, 6), (⟨"BreathSquare", "refusalOf", "(IZ)I"⟩, 9), (⟨"BreathSquare$Places", "areClear", "(II)Z"⟩, 6), (⟨"BreathSquare$Places", "takePair", "(III)V"⟩, 6), (⟨"BreathSquare$Places", "sizeOf", "(II)I"⟩, 6), (⟨"BreathSquare$Places", "spread", "(II)I"⟩, 6), (⟨"BreathSquare$Water", "lowestBeside", "(I)I"⟩, 3), (⟨"BreathSquare$Mason", "putInOrder", "(I)V"⟩, 2), (⟨"BreathSquare$Readings", "areAllSo", "(II)Z"⟩, 5), (⟨"BreathSquareModel", "against", "(IIII)I"⟩, 25), (⟨"BreathSquareModel", "fails", "(I)I"⟩, 25), (⟨"BreathSquareModel", "readSquare", "(I)Z"⟩, 25)]
theorem lw_r1 : ∀ q ∈ lw_privs_1, lw_okq q := List.forall_mem_cons.mpr ⟨lw_p0, List.forall_mem_cons.mpr ⟨lw_p1, List.forall_mem_cons.mpr ⟨lw_p2, List.forall_mem_cons.mpr ⟨lw_p3, List.forall_mem_cons.mpr ⟨lw_p4, List.forall_mem_cons.mpr ⟨lw_p5, List.forall_mem_cons.mpr ⟨lw_p6, List.forall_mem_cons.mpr ⟨lw_p7, List.forall_mem_cons.mpr ⟨lw_p8, List.forall_mem_cons.mpr ⟨lw_p9, List.forall_mem_cons.mpr ⟨lw_p10, List.forall_mem_cons.mpr ⟨lw_p11, List.forall_mem_cons.mpr ⟨lw_p12, List.forall_mem_cons.mpr ⟨lw_p13, List.forall_mem_cons.mpr ⟨lw_p14, List.forall_mem_cons.mpr ⟨lw_p15, fun _ h => absurd h List.not_mem_nil⟩⟩⟩⟩⟩⟩⟩⟩⟩⟩⟩⟩⟩⟩⟩⟩
theorem lw_p16 : lw_okq (⟨"BreathSquareModel", "digit", "(III)I"⟩, 25) := ⟨⟨by decide +kernel, by decide +kernel⟩, List.mem_of_getElem? (i := 727) (by decide +kernel), List.mem_of_getElem? (i := 835) (by decide +kernel), List.mem_of_getElem? (i := 836) (by decide +kernel)⟩
theorem lw_p17 : lw_okq (⟨"BreathSquareModel", "readStone", "(II)Z"⟩, 25) := ⟨⟨by decide +kernel, by decide +kernel⟩, List.mem_of_getElem? (i := 727) (by decide +kernel), List.mem_of_getElem? (i := 839) (by decide +kernel), List.mem_of_getElem? (i := 840) (by decide +kernel)⟩
theorem lw_p18 : lw_okq (⟨"BreathSquareModel", "all", "()I"⟩, 25) := ⟨⟨by decide +kernel, by decide +kernel⟩, List.mem_of_getElem? (i := 727) (by decide +kernel), List.mem_of_getElem? (i := 843) (by decide +kernel), List.mem_of_getElem? (i := 844) (by decide +kernel)⟩
theorem lw_p19 : lw_okq (⟨"BreathSquareModel", "isStone", "(I)Z"⟩, 25) := ⟨⟨by decide +kernel, by decide +kernel⟩, List.mem_of_getElem? (i := 727) (by decide +kernel), List.mem_of_getElem? (i := 851) (by decide +kernel), List.mem_of_getElem? (i := 852) (by decide +kernel)⟩
theorem lw_p20 : lw_okq (⟨"BreathSquareModel", "heightOf", "(II)I"⟩, 25) := ⟨⟨by decide +kernel, by decide +kernel⟩, List.mem_of_getElem? (i := 727) (by decide +kernel), List.mem_of_getElem? (i := 870) (by decide +kernel), List.mem_of_getElem? (i := 871) (by decide +kernel)⟩
theorem lw_p21 : lw_okq (⟨"BreathSquareModel", "heightAs", "(III)I"⟩, 25) := ⟨⟨by decide +kernel, by decide +kernel⟩, List.mem_of_getElem? (i := 727) (by decide +kernel), List.mem_of_getElem? (i := 874) (by decide +kernel), List.mem_of_getElem? (i := 875) (by decide +kernel)⟩
theorem lw_p22 : lw_okq (⟨"BreathSquareModel", "findFar", "(IIII)V"⟩, 25) := ⟨⟨by decide +kernel, by decide +kernel⟩, List.mem_of_getElem? (i := 727) (by decide +kernel), List.mem_of_getElem? (i := 886) (by decide +kernel), List.mem_of_getElem? (i := 887) (by decide +kernel)⟩
theorem lw_p23 : lw_okq (⟨"BreathSquareModel", "beside", "(II)I"⟩, 25) := ⟨⟨by decide +kernel, by decide +kernel⟩, List.mem_of_getElem? (i := 727) (by decide +kernel), List.mem_of_getElem? (i := 891) (by decide +kernel), List.mem_of_getElem? (i := 892) (by decide +kernel)⟩
theorem lw_p24 : lw_okq (⟨"BreathSquareModel", "isStep", "(IIIII)Z"⟩, 25) := ⟨⟨by decide +kernel, by decide +kernel⟩, List.mem_of_getElem? (i := 727) (by decide +kernel), List.mem_of_getElem? (i := 895) (by decide +kernel), List.mem_of_getElem? (i := 896) (by decide +kernel)⟩
theorem lw_p25 : lw_okq (⟨"BreathSquareModel", "isPlace", "(I)Z"⟩, 25) := ⟨⟨by decide +kernel, by decide +kernel⟩, List.mem_of_getElem? (i := 727) (by decide +kernel), List.mem_of_getElem? (i := 914) (by decide +kernel), List.mem_of_getElem? (i := 915) (by decide +kernel)⟩
theorem lw_p26 : lw_okq (⟨"BreathSquareModel", "wedgesOf", "(II)I"⟩, 25) := ⟨⟨by decide +kernel, by decide +kernel⟩, List.mem_of_getElem? (i := 727) (by decide +kernel), List.mem_of_getElem? (i := 918) (by decide +kernel), List.mem_of_getElem? (i := 919) (by decide +kernel)⟩
theorem lw_p27 : lw_okq (⟨"BreathSquareModel", "areApart", "(II)Z"⟩, 25) := ⟨⟨by decide +kernel, by decide +kernel⟩, List.mem_of_getElem? (i := 727) (by decide +kernel), List.mem_of_getElem? (i := 930) (by decide +kernel), List.mem_of_getElem? (i := 931) (by decide +kernel)⟩
theorem lw_p28 : lw_okq (⟨"BreathSquareModel", "apartOf", "(III)I"⟩, 25) := ⟨⟨by decide +kernel, by decide +kernel⟩, List.mem_of_getElem? (i := 727) (by decide +kernel), List.mem_of_getElem? (i := 938) (by decide +kernel), List.mem_of_getElem? (i := 939) (by decide +kernel)⟩
theorem lw_p29 : lw_okq (⟨"BreathSquareModel", "findWater", "(I)V"⟩, 25) := ⟨⟨by decide +kernel, by decide +kernel⟩, List.mem_of_getElem? (i := 727) (by decide +kernel), List.mem_of_getElem? (i := 946) (by decide +kernel), List.mem_of_getElem? (i := 947) (by decide +kernel)⟩
theorem lw_p30 : lw_okq (⟨"BreathSquareModel", "isEdge", "(I)Z"⟩, 25) := ⟨⟨by decide +kernel, by decide +kernel⟩, List.mem_of_getElem? (i := 727) (by decide +kernel), List.mem_of_getElem? (i := 950) (by decide +kernel), List.mem_of_getElem? (i := 951) (by decide +kernel)⟩
theorem lw_p31 : lw_okq (⟨"BreathSquareModel", "poolOf", "(I)I"⟩, 25) := ⟨⟨by decide +kernel, by decide +kernel⟩, List.mem_of_getElem? (i := 727) (by decide +kernel), List.mem_of_getElem? (i := 958) (by decide +kernel), List.mem_of_getElem? (i := 959) (by decide +kernel)⟩
def lw_privs_2 : List (MethodName × Nat) := [(⟨"BreathSquareModel", "digit", "(III)I"⟩, 25), (⟨"BreathSquareModel", "readStone", "(II)Z"⟩, 25), (⟨"BreathSquareModel", "all", "()I"⟩, 25), (⟨"BreathSquareModel", "isStone", "(I)Z"⟩, 25), (⟨"BreathSquareModel", "heightOf", "(II)I"⟩, 25), (⟨"BreathSquareModel", "heightAs", "(III)I"⟩, 25), (⟨"BreathSquareModel", "findFar", "(IIII)V"⟩, 25), (⟨"BreathSquareModel", "beside", "(II)I"⟩, 25), (⟨"BreathSquareModel", "isStep", "(IIIII)Z"⟩, 25), (⟨"BreathSquareModel", "isPlace", "(I)Z"⟩, 25), (⟨"BreathSquareModel", "wedgesOf", "(II)I"⟩, 25), (⟨"BreathSquareModel", "areApart", "(II)Z"⟩, 25), (⟨"BreathSquareModel", "apartOf", "(III)I"⟩, 25), (⟨"BreathSquareModel", "findWater", "(I)V"⟩, 25), (⟨"BreathSquareModel", "isEdge", "(I)Z"⟩, 25), (⟨"BreathSquareModel", "poolOf", "(I)I"⟩, 25)]
theorem lw_r2 : ∀ q ∈ lw_privs_2, lw_okq q := List.forall_mem_cons.mpr ⟨lw_p16, List.forall_mem_cons.mpr ⟨lw_p17, List.forall_mem_cons.mpr ⟨lw_p18, List.forall_mem_cons.mpr ⟨lw_p19, List.forall_mem_cons.mpr ⟨lw_p20, List.forall_mem_cons.mpr ⟨lw_p21, List.forall_mem_cons.mpr ⟨lw_p22, List.forall_mem_cons.mpr ⟨lw_p23, List.forall_mem_cons.mpr ⟨lw_p24, List.forall_mem_cons.mpr ⟨lw_p25, List.forall_mem_cons.mpr ⟨lw_p26, List.forall_mem_cons.mpr ⟨lw_p27, List.forall_mem_cons.mpr ⟨lw_p28, List.forall_mem_cons.mpr ⟨lw_p29, List.forall_mem_cons.mpr ⟨lw_p30, List.forall_mem_cons.mpr ⟨lw_p31, fun _ h => absurd h List.not_mem_nil⟩⟩⟩⟩⟩⟩⟩⟩⟩⟩⟩⟩⟩⟩⟩⟩
theorem lw_p32 : lw_okq (⟨"BreathSquareModel", "areBeside", "(II)Z"⟩, 25) := ⟨⟨by decide +kernel, by decide +kernel⟩, List.mem_of_getElem? (i := 727) (by decide +kernel), List.mem_of_getElem? (i := 970) (by decide +kernel), List.mem_of_getElem? (i := 971) (by decide +kernel)⟩
theorem lw_p33 : lw_okq (⟨"BreathSquareModel", "apartNow", "()I"⟩, 25) := ⟨⟨by decide +kernel, by decide +kernel⟩, List.mem_of_getElem? (i := 727) (by decide +kernel), List.mem_of_getElem? (i := 978) (by decide +kernel), List.mem_of_getElem? (i := 979) (by decide +kernel)⟩
theorem lw_p34 : lw_okq (⟨"BreathSquareModel", "goNight", "(I)V"⟩, 25) := ⟨⟨by decide +kernel, by decide +kernel⟩, List.mem_of_getElem? (i := 727) (by decide +kernel), List.mem_of_getElem? (i := 982) (by decide +kernel), List.mem_of_getElem? (i := 983) (by decide +kernel)⟩
theorem lw_p35 : lw_okq (⟨"BreathSquareModel", "isKind", "(II)Z"⟩, 25) := ⟨⟨by decide +kernel, by decide +kernel⟩, List.mem_of_getElem? (i := 727) (by decide +kernel), List.mem_of_getElem? (i := 998) (by decide +kernel), List.mem_of_getElem? (i := 999) (by decide +kernel)⟩
theorem lw_p36 : lw_okq (⟨"BreathSquareModel", "lost", "(I)J"⟩, 25) := ⟨⟨by decide +kernel, by decide +kernel⟩, List.mem_of_getElem? (i := 727) (by decide +kernel), List.mem_of_getElem? (i := 1019) (by decide +kernel), List.mem_of_getElem? (i := 1020) (by decide +kernel)⟩
theorem lw_p37 : lw_okq (⟨"BreathSquareModel", "begins", "(I)V"⟩, 25) := ⟨⟨by decide +kernel, by decide +kernel⟩, List.mem_of_getElem? (i := 727) (by decide +kernel), List.mem_of_getElem? (i := 1031) (by decide +kernel), List.mem_of_getElem? (i := 1032) (by decide +kernel)⟩
def lw_privs_3 : List (MethodName × Nat) := [(⟨"BreathSquareModel", "areBeside", "(II)Z"⟩, 25), (⟨"BreathSquareModel", "apartNow", "()I"⟩, 25), (⟨"BreathSquareModel", "goNight", "(I)V"⟩, 25), (⟨"BreathSquareModel", "isKind", "(II)Z"⟩, 25), (⟨"BreathSquareModel", "lost", "(I)J"⟩, 25), (⟨"BreathSquareModel", "begins", "(I)V"⟩, 25)]
theorem lw_r3 : ∀ q ∈ lw_privs_3, lw_okq q := List.forall_mem_cons.mpr ⟨lw_p32, List.forall_mem_cons.mpr ⟨lw_p33, List.forall_mem_cons.mpr ⟨lw_p34, List.forall_mem_cons.mpr ⟨lw_p35, List.forall_mem_cons.mpr ⟨lw_p36, List.forall_mem_cons.mpr ⟨lw_p37, fun _ h => absurd h List.not_mem_nil⟩⟩⟩⟩⟩⟩
def lw_privs : List (MethodName × Nat) := lw_privs_1 ++ (lw_privs_2 ++ (lw_privs_3))
def lw_tbl : List Cond := k2_sels lw_privs ++ tables_1
theorem lw_privs_ok : ∀ q ∈ lw_privs, lw_okq q := by
  show ∀ q ∈ lw_privs_1 ++ (lw_privs_2 ++ (lw_privs_3)), lw_okq q
  exact List.forall_mem_append.mpr ⟨lw_r1, List.forall_mem_append.mpr ⟨lw_r2, lw_r3⟩⟩
end
section
def RX0 : String := "BreathSquare$Clay"
def TX0 : u_T := fun k => match k with
  | _ => ("", "", "", false)
def tyX0 : Nat → FieldType := fun k => match k with
  | _ => .int
abbrev wsX00 : List Cond := u_ws RX0 TX0 0
theorem nmX0 : ∀ a, a < 0 → ∀ b, b < 0 → a ≠ b → (TX0 a).2.1 ≠ (TX0 b).2.1 := by decide +kernel
theorem tyX0_ok : ∀ k, k < 0 → parseFieldDescriptor (TX0 k).2.2.1 = some (tyX0 k) := by decide +kernel
abbrev cX0_init : ByteArray := prog_2_method_1_code
def yX0_init : MethodName := ⟨RX0, "<init>", "()V"⟩
abbrev cX0_swell : ByteArray := prog_2_method_2_code
def yX0_swell : MethodName := ⟨RX0, "swell", "(II)I"⟩
abbrev cX0_telling : ByteArray := prog_2_method_3_code
def yX0_telling : MethodName := ⟨RX0, "telling", "(ILBreathSquare$Trace;)I"⟩
def RX1 : String := "BreathSquare$Frosty"
def TX1 : u_T := fun k => match k with
  | _ => ("", "", "", false)
def tyX1 : Nat → FieldType := fun k => match k with
  | _ => .int
abbrev wsX10 : List Cond := u_ws RX1 TX1 0
theorem nmX1 : ∀ a, a < 0 → ∀ b, b < 0 → a ≠ b → (TX1 a).2.1 ≠ (TX1 b).2.1 := by decide +kernel
theorem tyX1_ok : ∀ k, k < 0 → parseFieldDescriptor (TX1 k).2.2.1 = some (tyX1 k) := by decide +kernel
abbrev cX1_init : ByteArray := prog_3_method_1_code
def yX1_init : MethodName := ⟨RX1, "<init>", "()V"⟩
abbrev cX1_swell : ByteArray := prog_3_method_2_code
def yX1_swell : MethodName := ⟨RX1, "swell", "(II)I"⟩
abbrev cX1_telling : ByteArray := prog_3_method_3_code
def yX1_telling : MethodName := ⟨RX1, "telling", "(ILBreathSquare$Trace;)I"⟩
abbrev cX1_trodden : ByteArray := prog_3_method_4_code
def yX1_trodden : MethodName := ⟨RX1, "trodden", "(ILBreathSquare$Trace;)I"⟩
def RX2 : String := "BreathSquare$Mason"
def TX2 : u_T := fun k => match k with
  | 0 => ("BreathSquare$Mason", "paving", "LBreathSquare$Paving;", true)
  | _ => ("BreathSquare$Mason", "ranks", "[I", true)
def tyX2 : Nat → FieldType := fun k => match k with
  | 0 => .object "BreathSquare$Paving"
  | _ => .array .int
abbrev wsX20 : List Cond := u_ws RX2 TX2 2
theorem nmX2 : ∀ a, a < 2 → ∀ b, b < 2 → a ≠ b → (TX2 a).2.1 ≠ (TX2 b).2.1 := by decide +kernel
theorem tyX2_ok : ∀ k, k < 2 → parseFieldDescriptor (TX2 k).2.2.1 = some (tyX2 k) := by decide +kernel
abbrev cX2_init : ByteArray := prog_4_method_1_code
def yX2_init : MethodName := ⟨RX2, "<init>", "(LBreathSquare$Paving;)V"⟩
abbrev cX2_nightsTill : ByteArray := prog_4_method_2_code
def yX2_nightsTill : MethodName := ⟨RX2, "nightsTill", "(III)I"⟩
abbrev cX2_putInOrder : ByteArray := prog_4_method_3_code
def yX2_putInOrder : MethodName := ⟨RX2, "putInOrder", "(I)V"⟩
def RX3 : String := "BreathSquare$Paving"
def TX3 : u_T := fun k => match k with
  | 0 => ("BreathSquare$Paving", "bodies", "[LBreathSquare$Stone;", true)
  | 1 => ("BreathSquare$Paving", "kindOf", "[I", true)
  | 2 => ("BreathSquare$Paving", "ground", "[I", true)
  | 3 => ("BreathSquare$Paving", "lifted", "[I", true)
  | 4 => ("BreathSquare$Paving", "rowOf", "[I", true)
  | 5 => ("BreathSquare$Paving", "columnOf", "[I", true)
  | 6 => ("BreathSquare$Paving", "wet", "[I", true)
  | 7 => ("BreathSquare$Paving", "frost", "[I", true)
  | 8 => ("BreathSquare$Paving", "high", "I", false)
  | _ => ("BreathSquare$Paving", "wide", "I", false)
def tyX3 : Nat → FieldType := fun k => match k with
  | 0 => .array (.object "BreathSquare$Stone")
  | 1 => .array .int
  | 2 => .array .int
  | 3 => .array .int
  | 4 => .array .int
  | 5 => .array .int
  | 6 => .array .int
  | 7 => .array .int
  | 8 => .int
  | _ => .int
abbrev wsX30 : List Cond := u_ws RX3 TX3 10
theorem nmX3 : ∀ a, a < 10 → ∀ b, b < 10 → a ≠ b → (TX3 a).2.1 ≠ (TX3 b).2.1 := by decide +kernel
theorem tyX3_ok : ∀ k, k < 10 → parseFieldDescriptor (TX3 k).2.2.1 = some (tyX3 k) := by decide +kernel
abbrev cX3_init : ByteArray := prog_5_method_1_code
def yX3_init : MethodName := ⟨RX3, "<init>", "()V"⟩
abbrev cX3_firstFault : ByteArray := prog_5_method_2_code
def yX3_firstFault : MethodName := ⟨RX3, "firstFault", "(LBreathSquare$Sheet;II)I"⟩
abbrev cX3_fitsHead : ByteArray := prog_5_method_3_code
def yX3_fitsHead : MethodName := ⟨RX3, "fitsHead", "(II)Z"⟩
abbrev cX3_fitsRow : ByteArray := prog_5_method_4_code
def yX3_fitsRow : MethodName := ⟨RX3, "fitsRow", "(III)Z"⟩
abbrev cX3_rowLength : ByteArray := prog_5_method_5_code
def yX3_rowLength : MethodName := ⟨RX3, "rowLength", "(I)I"⟩
abbrev cX3_kindBy : ByteArray := prog_5_method_6_code
def yX3_kindBy : MethodName := ⟨RX3, "kindBy", "(I)I"⟩
abbrev cX3_lay : ByteArray := prog_5_method_7_code
def yX3_lay : MethodName := ⟨RX3, "lay", "(LBreathSquare$Sheet;I)V"⟩
abbrev cX3_isBare : ByteArray := prog_5_method_8_code
def yX3_isBare : MethodName := ⟨RX3, "isBare", "()Z"⟩
abbrev cX3_stones : ByteArray := prog_5_method_9_code
def yX3_stones : MethodName := ⟨RX3, "stones", "()I"⟩
abbrev cX3_has : ByteArray := prog_5_method_10_code
def yX3_has : MethodName := ⟨RX3, "has", "(I)Z"⟩
abbrev cX3_hasStall : ByteArray := prog_5_method_11_code
def yX3_hasStall : MethodName := ⟨RX3, "hasStall", "(I)Z"⟩
abbrev cX3_isAtEdge : ByteArray := prog_5_method_12_code
def yX3_isAtEdge : MethodName := ⟨RX3, "isAtEdge", "(I)Z"⟩
abbrev cX3_neighbour : ByteArray := prog_5_method_13_code
def yX3_neighbour : MethodName := ⟨RX3, "neighbour", "(II)I"⟩
abbrev cX3_areBeside : ByteArray := prog_5_method_14_code
def yX3_areBeside : MethodName := ⟨RX3, "areBeside", "(II)Z"⟩
abbrev cX3_bodyOf : ByteArray := prog_5_method_15_code
def yX3_bodyOf : MethodName := ⟨RX3, "bodyOf", "(I)LBreathSquare$Stone;"⟩
abbrev cX3_heightOf : ByteArray := prog_5_method_16_code
def yX3_heightOf : MethodName := ⟨RX3, "heightOf", "(II)I"⟩
abbrev cX3_heightAs : ByteArray := prog_5_method_17_code
def yX3_heightAs : MethodName := ⟨RX3, "heightAs", "(III)I"⟩
abbrev cX3_writeHeights : ByteArray := prog_5_method_18_code
def yX3_writeHeights : MethodName := ⟨RX3, "writeHeights", "(I[I)V"⟩
abbrev cX3_highestMonth : ByteArray := prog_5_method_19_code
def yX3_highestMonth : MethodName := ⟨RX3, "highestMonth", "(I)I"⟩
abbrev cX3_lowestMonth : ByteArray := prog_5_method_20_code
def yX3_lowestMonth : MethodName := ⟨RX3, "lowestMonth", "(I)I"⟩
def RX4 : String := "BreathSquare$Places"
def TX4 : u_T := fun k => match k with
  | 0 => ("BreathSquare$Places", "paving", "LBreathSquare$Paving;", true)
  | 1 => ("BreathSquare$Places", "heights", "[I", true)
  | 2 => ("BreathSquare$Places", "wedgesOf", "[I", true)
  | 3 => ("BreathSquare$Places", "first", "I", false)
  | 4 => ("BreathSquare$Places", "second", "I", false)
  | _ => ("BreathSquare$Places", "together", "I", false)
def tyX4 : Nat → FieldType := fun k => match k with
  | 0 => .object "BreathSquare$Paving"
  | 1 => .array .int
  | 2 => .array .int
  | 3 => .int
  | 4 => .int
  | _ => .int
abbrev wsX40 : List Cond := u_ws RX4 TX4 6
theorem nmX4 : ∀ a, a < 6 → ∀ b, b < 6 → a ≠ b → (TX4 a).2.1 ≠ (TX4 b).2.1 := by decide +kernel
theorem tyX4_ok : ∀ k, k < 6 → parseFieldDescriptor (TX4 k).2.2.1 = some (tyX4 k) := by decide +kernel
abbrev cX4_init : ByteArray := prog_6_method_1_code
def yX4_init : MethodName := ⟨RX4, "<init>", "(LBreathSquare$Paving;)V"⟩
abbrev cX4_measure : ByteArray := prog_6_method_2_code
def yX4_measure : MethodName := ⟨RX4, "measure", "(I)V"⟩
abbrev cX4_wedgesAt : ByteArray := prog_6_method_3_code
def yX4_wedgesAt : MethodName := ⟨RX4, "wedgesAt", "(I)I"⟩
abbrev cX4_bestPlace : ByteArray := prog_6_method_4_code
def yX4_bestPlace : MethodName := ⟨RX4, "bestPlace", "()I"⟩
abbrev cX4_findPair : ByteArray := prog_6_method_5_code
def yX4_findPair : MethodName := ⟨RX4, "findPair", "()V"⟩
abbrev cX4_areClear : ByteArray := prog_6_method_6_code
def yX4_areClear : MethodName := ⟨RX4, "areClear", "(II)Z"⟩
abbrev cX4_takePair : ByteArray := prog_6_method_7_code
def yX4_takePair : MethodName := ⟨RX4, "takePair", "(III)V"⟩
abbrev cX4_findOval : ByteArray := prog_6_method_8_code
def yX4_findOval : MethodName := ⟨RX4, "findOval", "(I)V"⟩
abbrev cX4_sizeOf : ByteArray := prog_6_method_9_code
def yX4_sizeOf : MethodName := ⟨RX4, "sizeOf", "(II)I"⟩
abbrev cX4_spread : ByteArray := prog_6_method_10_code
def yX4_spread : MethodName := ⟨RX4, "spread", "(II)I"⟩
def RX5 : String := "BreathSquare$Readings"
def TX5 : u_T := fun k => match k with
  | 0 => ("BreathSquare$Readings", "paving", "LBreathSquare$Paving;", true)
  | 1 => ("BreathSquare$Readings", "stoneOf", "[I", true)
  | 2 => ("BreathSquare$Readings", "monthOf", "[I", true)
  | 3 => ("BreathSquare$Readings", "heightRead", "[I", true)
  | _ => ("BreathSquare$Readings", "count", "I", false)
def tyX5 : Nat → FieldType := fun k => match k with
  | 0 => .object "BreathSquare$Paving"
  | 1 => .array .int
  | 2 => .array .int
  | 3 => .array .int
  | _ => .int
abbrev wsX50 : List Cond := u_ws RX5 TX5 5
theorem nmX5 : ∀ a, a < 5 → ∀ b, b < 5 → a ≠ b → (TX5 a).2.1 ≠ (TX5 b).2.1 := by decide +kernel
theorem tyX5_ok : ∀ k, k < 5 → parseFieldDescriptor (TX5 k).2.2.1 = some (tyX5 k) := by decide +kernel
abbrev cX5_init : ByteArray := prog_7_method_1_code
def yX5_init : MethodName := ⟨RX5, "<init>", "(LBreathSquare$Paving;)V"⟩
abbrev cX5_forgetAll : ByteArray := prog_7_method_2_code
def yX5_forgetAll : MethodName := ⟨RX5, "forgetAll", "()V"⟩
abbrev cX5_isFull : ByteArray := prog_7_method_3_code
def yX5_isFull : MethodName := ⟨RX5, "isFull", "()Z"⟩
abbrev cX5_take : ByteArray := prog_7_method_4_code
def yX5_take : MethodName := ⟨RX5, "take", "(III)I"⟩
abbrev cX5_takeBack : ByteArray := prog_7_method_5_code
def yX5_takeBack : MethodName := ⟨RX5, "takeBack", "(I)I"⟩
abbrev cX5_kindsOf : ByteArray := prog_7_method_6_code
def yX5_kindsOf : MethodName := ⟨RX5, "kindsOf", "(I)I"⟩
abbrev cX5_areAllSo : ByteArray := prog_7_method_7_code
def yX5_areAllSo : MethodName := ⟨RX5, "areAllSo", "(II)Z"⟩
def RX6 : String := "BreathSquare$Sheet"
def TX6 : u_T := fun k => match k with
  | 0 => ("BreathSquare$Sheet", "cells", "[I", true)
  | 1 => ("BreathSquare$Sheet", "sort", "I", false)
  | _ => ("BreathSquare$Sheet", "length", "I", false)
def tyX6 : Nat → FieldType := fun k => match k with
  | 0 => .array .int
  | 1 => .int
  | _ => .int
abbrev wsX60 : List Cond := u_ws RX6 TX6 3
theorem nmX6 : ∀ a, a < 3 → ∀ b, b < 3 → a ≠ b → (TX6 a).2.1 ≠ (TX6 b).2.1 := by decide +kernel
theorem tyX6_ok : ∀ k, k < 3 → parseFieldDescriptor (TX6 k).2.2.1 = some (tyX6 k) := by decide +kernel
abbrev cX6_init : ByteArray := prog_8_method_1_code
def yX6_init : MethodName := ⟨RX6, "<init>", "()V"⟩
abbrev cX6_isNothing : ByteArray := prog_8_method_2_code
def yX6_isNothing : MethodName := ⟨RX6, "isNothing", "()Z"⟩
abbrev cX6_faultAs : ByteArray := prog_8_method_3_code
def yX6_faultAs : MethodName := ⟨RX6, "faultAs", "(I)I"⟩
abbrev cX6_hasCell : ByteArray := prog_8_method_4_code
def yX6_hasCell : MethodName := ⟨RX6, "hasCell", "(I)Z"⟩
abbrev cX6_hasCells : ByteArray := prog_8_method_5_code
def yX6_hasCells : MethodName := ⟨RX6, "hasCells", "(II)Z"⟩
abbrev cX6_renew : ByteArray := prog_8_method_6_code
def yX6_renew : MethodName := ⟨RX6, "renew", "(II)V"⟩
abbrev cX6_clear : ByteArray := prog_8_method_7_code
def yX6_clear : MethodName := ⟨RX6, "clear", "()Z"⟩
abbrev cX6_write : ByteArray := prog_8_method_8_code
def yX6_write : MethodName := ⟨RX6, "write", "(II)V"⟩
def RX7 : String := "BreathSquare$Stone"
def TX7 : u_T := fun k => match k with
  | _ => ("", "", "", false)
def tyX7 : Nat → FieldType := fun k => match k with
  | _ => .int
abbrev wsX70 : List Cond := u_ws RX7 TX7 0
theorem nmX7 : ∀ a, a < 0 → ∀ b, b < 0 → a ≠ b → (TX7 a).2.1 ≠ (TX7 b).2.1 := by decide +kernel
theorem tyX7_ok : ∀ k, k < 0 → parseFieldDescriptor (TX7 k).2.2.1 = some (tyX7 k) := by decide +kernel
abbrev cX7_init : ByteArray := prog_9_method_1_code
def yX7_init : MethodName := ⟨RX7, "<init>", "()V"⟩
abbrev cX7_swell : ByteArray := prog_9_method_2_code
def yX7_swell : MethodName := ⟨RX7, "swell", "(II)I"⟩
abbrev cX7_telling : ByteArray := prog_9_method_3_code
def yX7_telling : MethodName := ⟨RX7, "telling", "(ILBreathSquare$Trace;)I"⟩
abbrev cX7_stoneTelling : ByteArray := prog_9_method_4_code
def yX7_stoneTelling : MethodName := ⟨RX7, "stoneTelling", "(ILBreathSquare$Trace;)I"⟩
abbrev cX7_trodden : ByteArray := prog_9_method_5_code
def yX7_trodden : MethodName := ⟨RX7, "trodden", "(ILBreathSquare$Trace;)I"⟩
def RX8 : String := "BreathSquare$Trace"
def TX8 : u_T := fun k => match k with
  | _ => ("BreathSquare$Trace", "left", "I", false)
def tyX8 : Nat → FieldType := fun k => match k with
  | _ => .int
abbrev wsX80 : List Cond := u_ws RX8 TX8 1
theorem nmX8 : ∀ a, a < 1 → ∀ b, b < 1 → a ≠ b → (TX8 a).2.1 ≠ (TX8 b).2.1 := by decide +kernel
theorem tyX8_ok : ∀ k, k < 1 → parseFieldDescriptor (TX8 k).2.2.1 = some (tyX8 k) := by decide +kernel
abbrev cX8_init : ByteArray := prog_10_method_1_code
def yX8_init : MethodName := ⟨RX8, "<init>", "()V"⟩
abbrev cX8_leave : ByteArray := prog_10_method_2_code
def yX8_leave : MethodName := ⟨RX8, "leave", "(I)V"⟩
def RX9 : String := "BreathSquare$Water"
def TX9 : u_T := fun k => match k with
  | 0 => ("BreathSquare$Water", "paving", "LBreathSquare$Paving;", true)
  | 1 => ("BreathSquare$Water", "heights", "[I", true)
  | _ => ("BreathSquare$Water", "levels", "[I", true)
def tyX9 : Nat → FieldType := fun k => match k with
  | 0 => .object "BreathSquare$Paving"
  | 1 => .array .int
  | _ => .array .int
abbrev wsX90 : List Cond := u_ws RX9 TX9 3
theorem nmX9 : ∀ a, a < 3 → ∀ b, b < 3 → a ≠ b → (TX9 a).2.1 ≠ (TX9 b).2.1 := by decide +kernel
theorem tyX9_ok : ∀ k, k < 3 → parseFieldDescriptor (TX9 k).2.2.1 = some (tyX9 k) := by decide +kernel
abbrev cX9_init : ByteArray := prog_11_method_1_code
def yX9_init : MethodName := ⟨RX9, "<init>", "(LBreathSquare$Paving;)V"⟩
abbrev cX9_measure : ByteArray := prog_11_method_2_code
def yX9_measure : MethodName := ⟨RX9, "measure", "(I)V"⟩
abbrev cX9_settle : ByteArray := prog_11_method_3_code
def yX9_settle : MethodName := ⟨RX9, "settle", "()V"⟩
abbrev cX9_lowestBeside : ByteArray := prog_11_method_4_code
def yX9_lowestBeside : MethodName := ⟨RX9, "lowestBeside", "(I)I"⟩
abbrev cX9_depthAt : ByteArray := prog_11_method_5_code
def yX9_depthAt : MethodName := ⟨RX9, "depthAt", "(I)I"⟩
abbrev cX9_allDepths : ByteArray := prog_11_method_6_code
def yX9_allDepths : MethodName := ⟨RX9, "allDepths", "()I"⟩
abbrev cX9_poolIfLifted : ByteArray := prog_11_method_7_code
def yX9_poolIfLifted : MethodName := ⟨RX9, "poolIfLifted", "(II)I"⟩
abbrev cX9_bestLifted : ByteArray := prog_11_method_8_code
def yX9_bestLifted : MethodName := ⟨RX9, "bestLifted", "(I)I"⟩
def RX10 : String := "BreathSquare$Ways"
def TX10 : u_T := fun k => match k with
  | 0 => ("BreathSquare$Ways", "paving", "LBreathSquare$Paving;", true)
  | 1 => ("BreathSquare$Ways", "heights", "[I", true)
  | 2 => ("BreathSquare$Ways", "stepRight", "[I", true)
  | 3 => ("BreathSquare$Ways", "stepDown", "[I", true)
  | 4 => ("BreathSquare$Ways", "steps", "[I", true)
  | _ => ("BreathSquare$Ways", "queue", "[I", true)
def tyX10 : Nat → FieldType := fun k => match k with
  | 0 => .object "BreathSquare$Paving"
  | 1 => .array .int
  | 2 => .array .int
  | 3 => .array .int
  | 4 => .array .int
  | _ => .array .int
abbrev wsX100 : List Cond := u_ws RX10 TX10 6
theorem nmX10 : ∀ a, a < 6 → ∀ b, b < 6 → a ≠ b → (TX10 a).2.1 ≠ (TX10 b).2.1 := by decide +kernel
theorem tyX10_ok : ∀ k, k < 6 → parseFieldDescriptor (TX10 k).2.2.1 = some (tyX10 k) := by decide +kernel
abbrev cX10_init : ByteArray := prog_12_method_1_code
def yX10_init : MethodName := ⟨RX10, "<init>", "(LBreathSquare$Paving;)V"⟩
abbrev cX10_measure : ByteArray := prog_12_method_2_code
def yX10_measure : MethodName := ⟨RX10, "measure", "(II)V"⟩
abbrev cX10_apartTo : ByteArray := prog_12_method_3_code
def yX10_apartTo : MethodName := ⟨RX10, "apartTo", "(II)I"⟩
abbrev cX10_stepAt : ByteArray := prog_12_method_4_code
def yX10_stepAt : MethodName := ⟨RX10, "stepAt", "(III)I"⟩
abbrev cX10_countStepsTo : ByteArray := prog_12_method_5_code
def yX10_countStepsTo : MethodName := ⟨RX10, "countStepsTo", "(II)V"⟩
abbrev cX10_stoneBehind : ByteArray := prog_12_method_6_code
def yX10_stoneBehind : MethodName := ⟨RX10, "stoneBehind", "(III)I"⟩
abbrev cX10_nextOnWay : ByteArray := prog_12_method_7_code
def yX10_nextOnWay : MethodName := ⟨RX10, "nextOnWay", "(II)I"⟩
abbrev cX10_leastBetween : ByteArray := prog_12_method_8_code
def yX10_leastBetween : MethodName := ⟨RX10, "leastBetween", "(II)I"⟩
abbrev cX10_leastByNeighbours : ByteArray := prog_12_method_9_code
def yX10_leastByNeighbours : MethodName := ⟨RX10, "leastByNeighbours", "(I)I"⟩
def RX11 : String := "BreathSquare"
def TX11 : u_T := fun k => match k with
  | 0 => ("BreathSquare", "traces", "LBreathSquare$Trace;", true)
  | 1 => ("BreathSquare", "paving", "LBreathSquare$Paving;", true)
  | 2 => ("BreathSquare", "ways", "LBreathSquare$Ways;", true)
  | 3 => ("BreathSquare", "places", "LBreathSquare$Places;", true)
  | 4 => ("BreathSquare", "water", "LBreathSquare$Water;", true)
  | 5 => ("BreathSquare", "mason", "LBreathSquare$Mason;", true)
  | 6 => ("BreathSquare", "readings", "LBreathSquare$Readings;", true)
  | 7 => ("BreathSquare", "sheets", "[LBreathSquare$Sheet;", true)
  | _ => ("BreathSquare", "latestFault", "I", false)
def tyX11 : Nat → FieldType := fun k => match k with
  | 0 => .object "BreathSquare$Trace"
  | 1 => .object "BreathSquare$Paving"
  | 2 => .object "BreathSquare$Ways"
  | 3 => .object "BreathSquare$Places"
  | 4 => .object "BreathSquare$Water"
  | 5 => .object "BreathSquare$Mason"
  | 6 => .object "BreathSquare$Readings"
  | 7 => .array (.object "BreathSquare$Sheet")
  | _ => .int
abbrev wsX110 : List Cond := u_ws RX11 TX11 9
theorem nmX11 : ∀ a, a < 9 → ∀ b, b < 9 → a ≠ b → (TX11 a).2.1 ≠ (TX11 b).2.1 := by decide +kernel
theorem tyX11_ok : ∀ k, k < 9 → parseFieldDescriptor (TX11 k).2.2.1 = some (tyX11 k) := by decide +kernel
abbrev cX11_init : ByteArray := prog_1_method_1_code
def yX11_init : MethodName := ⟨RX11, "<init>", "()V"⟩
abbrev cX11_square : ByteArray := prog_1_method_2_code
def yX11_square : MethodName := ⟨RX11, "square", "(IIII)I"⟩
abbrev cX11_ofStone : ByteArray := prog_1_method_3_code
def yX11_ofStone : MethodName := ⟨RX11, "ofStone", "(II)I"⟩
abbrev cX11_month : ByteArray := prog_1_method_4_code
def yX11_month : MethodName := ⟨RX11, "month", "(III)I"⟩
abbrev cX11_lift : ByteArray := prog_1_method_5_code
def yX11_lift : MethodName := ⟨RX11, "lift", "(II)I"⟩
abbrev cX11_height : ByteArray := prog_1_method_6_code
def yX11_height : MethodName := ⟨RX11, "height", "(II)I"⟩
abbrev cX11_rises : ByteArray := prog_1_method_7_code
def yX11_rises : MethodName := ⟨RX11, "rises", "(II)I"⟩
abbrev cX11_way : ByteArray := prog_1_method_8_code
def yX11_way : MethodName := ⟨RX11, "way", "(IIIII)I"⟩
abbrev cX11_holds : ByteArray := prog_1_method_9_code
def yX11_holds : MethodName := ⟨RX11, "holds", "(IIIII)I"⟩
abbrev cX11_leastStep : ByteArray := prog_1_method_10_code
def yX11_leastStep : MethodName := ⟨RX11, "leastStep", "(III)I"⟩
abbrev cX11_wedges : ByteArray := prog_1_method_11_code
def yX11_wedges : MethodName := ⟨RX11, "wedges", "(II)I"⟩
abbrev cX11_best : ByteArray := prog_1_method_12_code
def yX11_best : MethodName := ⟨RX11, "best", "(II)I"⟩
abbrev cX11_two : ByteArray := prog_1_method_13_code
def yX11_two : MethodName := ⟨RX11, "two", "(II)I"⟩
abbrev cX11_oval : ByteArray := prog_1_method_14_code
def yX11_oval : MethodName := ⟨RX11, "oval", "(III)I"⟩
abbrev cX11_depth : ByteArray := prog_1_method_15_code
def yX11_depth : MethodName := ⟨RX11, "depth", "(II)I"⟩
abbrev cX11_pool : ByteArray := prog_1_method_16_code
def yX11_pool : MethodName := ⟨RX11, "pool", "(I)I"⟩
abbrev cX11_drain : ByteArray := prog_1_method_17_code
def yX11_drain : MethodName := ⟨RX11, "drain", "(III)I"⟩
abbrev cX11_statue : ByteArray := prog_1_method_18_code
def yX11_statue : MethodName := ⟨RX11, "statue", "(III)I"⟩
abbrev cX11_nights : ByteArray := prog_1_method_19_code
def yX11_nights : MethodName := ⟨RX11, "nights", "(III)I"⟩
abbrev cX11_reading : ByteArray := prog_1_method_20_code
def yX11_reading : MethodName := ⟨RX11, "reading", "(III)I"⟩
abbrev cX11_back : ByteArray := prog_1_method_21_code
def yX11_back : MethodName := ⟨RX11, "back", "(I)I"⟩
abbrev cX11_kinds : ByteArray := prog_1_method_22_code
def yX11_kinds : MethodName := ⟨RX11, "kinds", "(I)I"⟩
abbrev cX11_sheet : ByteArray := prog_1_method_23_code
def yX11_sheet : MethodName := ⟨RX11, "sheet", "(III)I"⟩
abbrev cX11_lose : ByteArray := prog_1_method_24_code
def yX11_lose : MethodName := ⟨RX11, "lose", "(I)I"⟩
abbrev cX11_put : ByteArray := prog_1_method_25_code
def yX11_put : MethodName := ⟨RX11, "put", "(III)I"⟩
abbrev cX11_cell : ByteArray := prog_1_method_26_code
def yX11_cell : MethodName := ⟨RX11, "cell", "(III)J"⟩
abbrev cX11_copy : ByteArray := prog_1_method_27_code
def yX11_copy : MethodName := ⟨RX11, "copy", "(IIIII)I"⟩
abbrev cX11_tell : ByteArray := prog_1_method_28_code
def yX11_tell : MethodName := ⟨RX11, "tell", "(I)I"⟩
abbrev cX11_tread : ByteArray := prog_1_method_29_code
def yX11_tread : MethodName := ⟨RX11, "tread", "(I)I"⟩
abbrev cX11_as : ByteArray := prog_1_method_30_code
def yX11_as : MethodName := ⟨RX11, "as", "(II)I"⟩
abbrev cX11_trace : ByteArray := prog_1_method_31_code
def yX11_trace : MethodName := ⟨RX11, "trace", "()I"⟩
abbrev cX11_fault : ByteArray := prog_1_method_32_code
def yX11_fault : MethodName := ⟨RX11, "fault", "()I"⟩
abbrev cX11_many : ByteArray := prog_1_method_33_code
def yX11_many : MethodName := ⟨RX11, "many", "(I)I"⟩
abbrev cX11_refusalOf : ByteArray := prog_1_method_34_code
def yX11_refusalOf : MethodName := ⟨RX11, "refusalOf", "(IZ)I"⟩
abbrev cX11_failed : ByteArray := prog_1_method_35_code
def yX11_failed : MethodName := ⟨RX11, "failed", "(I)I"⟩
abbrev cX11_isWithin : ByteArray := prog_1_method_36_code
def yX11_isWithin : MethodName := ⟨RX11, "isWithin", "(III)Z"⟩
abbrev cX11_isMonth : ByteArray := prog_1_method_37_code
def yX11_isMonth : MethodName := ⟨RX11, "isMonth", "(I)Z"⟩
abbrev cX11_isSheet : ByteArray := prog_1_method_38_code
def yX11_isSheet : MethodName := ⟨RX11, "isSheet", "(I)Z"⟩
abbrev cX11_isSort : ByteArray := prog_1_method_39_code
def yX11_isSort : MethodName := ⟨RX11, "isSort", "(I)Z"⟩
abbrev cX11_isApart : ByteArray := prog_1_method_40_code
def yX11_isApart : MethodName := ⟨RX11, "isApart", "(I)Z"⟩
def RX12 : String := "BreathSquareModel"
def TX12 : u_T := fun k => match k with
  | 0 => ("BreathSquareModel", "fault", "I", false)
  | 1 => ("BreathSquareModel", "trace", "I", false)
  | 2 => ("BreathSquareModel", "sorts", "[I", true)
  | 3 => ("BreathSquareModel", "sheetLong", "[I", true)
  | 4 => ("BreathSquareModel", "cells", "[I", true)
  | 5 => ("BreathSquareModel", "high", "I", false)
  | 6 => ("BreathSquareModel", "wide", "I", false)
  | 7 => ("BreathSquareModel", "kind", "[I", true)
  | 8 => ("BreathSquareModel", "ground", "[I", true)
  | 9 => ("BreathSquareModel", "lifted", "[I", true)
  | 10 => ("BreathSquareModel", "wet", "[I", true)
  | 11 => ("BreathSquareModel", "frost", "[I", true)
  | 12 => ("BreathSquareModel", "at", "I", false)
  | 13 => ("BreathSquareModel", "readHigh", "I", false)
  | 14 => ("BreathSquareModel", "readWide", "I", false)
  | 15 => ("BreathSquareModel", "readKind", "[I", true)
  | 16 => ("BreathSquareModel", "readGround", "[I", true)
  | 17 => ("BreathSquareModel", "far", "[I", true)
  | 18 => ("BreathSquareModel", "worst", "[I", true)
  | 19 => ("BreathSquareModel", "now", "[I", true)
  | 20 => ("BreathSquareModel", "isDone", "[Z", true)
  | 21 => ("BreathSquareModel", "readings", "I", false)
  | 22 => ("BreathSquareModel", "readStoneIs", "[I", true)
  | 23 => ("BreathSquareModel", "readMonth", "[I", true)
  | _ => ("BreathSquareModel", "readHeight", "[I", true)
def tyX12 : Nat → FieldType := fun k => match k with
  | 0 => .int
  | 1 => .int
  | 2 => .array .int
  | 3 => .array .int
  | 4 => .array .int
  | 5 => .int
  | 6 => .int
  | 7 => .array .int
  | 8 => .array .int
  | 9 => .array .int
  | 10 => .array .int
  | 11 => .array .int
  | 12 => .int
  | 13 => .int
  | 14 => .int
  | 15 => .array .int
  | 16 => .array .int
  | 17 => .array .int
  | 18 => .array .int
  | 19 => .array .int
  | 20 => .array .boolean
  | 21 => .int
  | 22 => .array .int
  | 23 => .array .int
  | _ => .array .int
abbrev wsX120 : List Cond := u_ws RX12 TX12 25
theorem nmX12 : ∀ a, a < 25 → ∀ b, b < 25 → a ≠ b → (TX12 a).2.1 ≠ (TX12 b).2.1 := by decide +kernel
theorem tyX12_ok : ∀ k, k < 25 → parseFieldDescriptor (TX12 k).2.2.1 = some (tyX12 k) := by decide +kernel
abbrev cX12_init : ByteArray := prog_14_method_1_code
def yX12_init : MethodName := ⟨RX12, "<init>", "()V"⟩
abbrev cX12_fails : ByteArray := prog_14_method_3_code
def yX12_fails : MethodName := ⟨RX12, "fails", "(I)I"⟩
abbrev cX12_lost : ByteArray := prog_14_method_4_code
def yX12_lost : MethodName := ⟨RX12, "lost", "(I)J"⟩
abbrev cX12_within : ByteArray := prog_14_method_5_code
def yX12_within : MethodName := ⟨RX12, "within", "(III)Z"⟩
abbrev cX12_isSheet : ByteArray := prog_14_method_6_code
def yX12_isSheet : MethodName := ⟨RX12, "isSheet", "(I)Z"⟩
abbrev cX12_isSort : ByteArray := prog_14_method_7_code
def yX12_isSort : MethodName := ⟨RX12, "isSort", "(I)Z"⟩
abbrev cX12_against : ByteArray := prog_14_method_8_code
def yX12_against : MethodName := ⟨RX12, "against", "(IIII)I"⟩
abbrev cX12_all : ByteArray := prog_14_method_9_code
def yX12_all : MethodName := ⟨RX12, "all", "()I"⟩
abbrev cX12_isStone : ByteArray := prog_14_method_10_code
def yX12_isStone : MethodName := ⟨RX12, "isStone", "(I)Z"⟩
abbrev cX12_isMonth : ByteArray := prog_14_method_11_code
def yX12_isMonth : MethodName := ⟨RX12, "isMonth", "(I)Z"⟩
abbrev cX12_digit : ByteArray := prog_14_method_12_code
def yX12_digit : MethodName := ⟨RX12, "digit", "(III)I"⟩
abbrev cX12_square : ByteArray := prog_14_method_13_code
def yX12_square : MethodName := ⟨RX12, "square", "(IIII)I"⟩
abbrev cX12_readSquare : ByteArray := prog_14_method_14_code
def yX12_readSquare : MethodName := ⟨RX12, "readSquare", "(I)Z"⟩
abbrev cX12_readStone : ByteArray := prog_14_method_15_code
def yX12_readStone : MethodName := ⟨RX12, "readStone", "(II)Z"⟩
abbrev cX12_ofStone : ByteArray := prog_14_method_16_code
def yX12_ofStone : MethodName := ⟨RX12, "ofStone", "(II)I"⟩
abbrev cX12_month : ByteArray := prog_14_method_17_code
def yX12_month : MethodName := ⟨RX12, "month", "(III)I"⟩
abbrev cX12_lift : ByteArray := prog_14_method_18_code
def yX12_lift : MethodName := ⟨RX12, "lift", "(II)I"⟩
abbrev cX12_heightAs : ByteArray := prog_14_method_19_code
def yX12_heightAs : MethodName := ⟨RX12, "heightAs", "(III)I"⟩
abbrev cX12_heightOf : ByteArray := prog_14_method_20_code
def yX12_heightOf : MethodName := ⟨RX12, "heightOf", "(II)I"⟩
abbrev cX12_height : ByteArray := prog_14_method_21_code
def yX12_height : MethodName := ⟨RX12, "height", "(II)I"⟩
abbrev cX12_rises : ByteArray := prog_14_method_22_code
def yX12_rises : MethodName := ⟨RX12, "rises", "(II)I"⟩
abbrev cX12_beside : ByteArray := prog_14_method_23_code
def yX12_beside : MethodName := ⟨RX12, "beside", "(II)I"⟩
abbrev cX12_size : ByteArray := prog_14_method_24_code
def yX12_size : MethodName := ⟨RX12, "size", "(I)I"⟩
abbrev cX12_isStep : ByteArray := prog_14_method_25_code
def yX12_isStep : MethodName := ⟨RX12, "isStep", "(IIIII)Z"⟩
abbrev cX12_findFar : ByteArray := prog_14_method_26_code
def yX12_findFar : MethodName := ⟨RX12, "findFar", "(IIII)V"⟩
abbrev cX12_way : ByteArray := prog_14_method_27_code
def yX12_way : MethodName := ⟨RX12, "way", "(IIIII)I"⟩
abbrev cX12_holds : ByteArray := prog_14_method_28_code
def yX12_holds : MethodName := ⟨RX12, "holds", "(IIIII)I"⟩
abbrev cX12_leastStep : ByteArray := prog_14_method_29_code
def yX12_leastStep : MethodName := ⟨RX12, "leastStep", "(III)I"⟩
abbrev cX12_isPlace : ByteArray := prog_14_method_30_code
def yX12_isPlace : MethodName := ⟨RX12, "isPlace", "(I)Z"⟩
abbrev cX12_wedgesOf : ByteArray := prog_14_method_31_code
def yX12_wedgesOf : MethodName := ⟨RX12, "wedgesOf", "(II)I"⟩
abbrev cX12_wedges : ByteArray := prog_14_method_32_code
def yX12_wedges : MethodName := ⟨RX12, "wedges", "(II)I"⟩
abbrev cX12_best : ByteArray := prog_14_method_33_code
def yX12_best : MethodName := ⟨RX12, "best", "(II)I"⟩
abbrev cX12_areApart : ByteArray := prog_14_method_34_code
def yX12_areApart : MethodName := ⟨RX12, "areApart", "(II)Z"⟩
abbrev cX12_two : ByteArray := prog_14_method_35_code
def yX12_two : MethodName := ⟨RX12, "two", "(II)I"⟩
abbrev cX12_apartOf : ByteArray := prog_14_method_36_code
def yX12_apartOf : MethodName := ⟨RX12, "apartOf", "(III)I"⟩
abbrev cX12_oval : ByteArray := prog_14_method_37_code
def yX12_oval : MethodName := ⟨RX12, "oval", "(III)I"⟩
abbrev cX12_isEdge : ByteArray := prog_14_method_38_code
def yX12_isEdge : MethodName := ⟨RX12, "isEdge", "(I)Z"⟩
abbrev cX12_findWater : ByteArray := prog_14_method_39_code
def yX12_findWater : MethodName := ⟨RX12, "findWater", "(I)V"⟩
abbrev cX12_depth : ByteArray := prog_14_method_40_code
def yX12_depth : MethodName := ⟨RX12, "depth", "(II)I"⟩
abbrev cX12_poolOf : ByteArray := prog_14_method_41_code
def yX12_poolOf : MethodName := ⟨RX12, "poolOf", "(I)I"⟩
abbrev cX12_pool : ByteArray := prog_14_method_42_code
def yX12_pool : MethodName := ⟨RX12, "pool", "(I)I"⟩
abbrev cX12_drain : ByteArray := prog_14_method_43_code
def yX12_drain : MethodName := ⟨RX12, "drain", "(III)I"⟩
abbrev cX12_areBeside : ByteArray := prog_14_method_44_code
def yX12_areBeside : MethodName := ⟨RX12, "areBeside", "(II)Z"⟩
abbrev cX12_statue : ByteArray := prog_14_method_45_code
def yX12_statue : MethodName := ⟨RX12, "statue", "(III)I"⟩
abbrev cX12_apartNow : ByteArray := prog_14_method_46_code
def yX12_apartNow : MethodName := ⟨RX12, "apartNow", "()I"⟩
abbrev cX12_goNight : ByteArray := prog_14_method_47_code
def yX12_goNight : MethodName := ⟨RX12, "goNight", "(I)V"⟩
abbrev cX12_nights : ByteArray := prog_14_method_48_code
def yX12_nights : MethodName := ⟨RX12, "nights", "(III)I"⟩
abbrev cX12_reading : ByteArray := prog_14_method_49_code
def yX12_reading : MethodName := ⟨RX12, "reading", "(III)I"⟩
abbrev cX12_back : ByteArray := prog_14_method_50_code
def yX12_back : MethodName := ⟨RX12, "back", "(I)I"⟩
abbrev cX12_isKind : ByteArray := prog_14_method_51_code
def yX12_isKind : MethodName := ⟨RX12, "isKind", "(II)Z"⟩
abbrev cX12_kinds : ByteArray := prog_14_method_52_code
def yX12_kinds : MethodName := ⟨RX12, "kinds", "(I)I"⟩
abbrev cX12_sheet : ByteArray := prog_14_method_53_code
def yX12_sheet : MethodName := ⟨RX12, "sheet", "(III)I"⟩
abbrev cX12_lose : ByteArray := prog_14_method_54_code
def yX12_lose : MethodName := ⟨RX12, "lose", "(I)I"⟩
abbrev cX12_put : ByteArray := prog_14_method_55_code
def yX12_put : MethodName := ⟨RX12, "put", "(III)I"⟩
abbrev cX12_cell : ByteArray := prog_14_method_56_code
def yX12_cell : MethodName := ⟨RX12, "cell", "(III)J"⟩
abbrev cX12_copy : ByteArray := prog_14_method_57_code
def yX12_copy : MethodName := ⟨RX12, "copy", "(IIIII)I"⟩
abbrev cX12_begins : ByteArray := prog_14_method_58_code
def yX12_begins : MethodName := ⟨RX12, "begins", "(I)V"⟩
abbrev cX12_tell : ByteArray := prog_14_method_59_code
def yX12_tell : MethodName := ⟨RX12, "tell", "(I)I"⟩
abbrev cX12_tread : ByteArray := prog_14_method_60_code
def yX12_tread : MethodName := ⟨RX12, "tread", "(I)I"⟩
abbrev cX12_as : ByteArray := prog_14_method_61_code
def yX12_as : MethodName := ⟨RX12, "as", "(II)I"⟩
abbrev cX12_trace : ByteArray := prog_14_method_62_code
def yX12_trace : MethodName := ⟨RX12, "trace", "()I"⟩
abbrev cX12_fault : ByteArray := prog_14_method_63_code
def yX12_fault : MethodName := ⟨RX12, "fault", "()I"⟩
abbrev cX12_many : ByteArray := prog_14_method_64_code
def yX12_many : MethodName := ⟨RX12, "many", "(I)I"⟩
abbrev cL_law : ByteArray := code
end
section
def R_law : String := "BreathSquareLaw"
/-- the words that keep through calls -/
def gT : List Cond := lw_tbl.filter goodWord
theorem gT_in {w : Cond} (h : w ∈ gT) : w ∈ lw_tbl := (List.mem_filter.mp h).1
theorem lt_1 {w : Cond} (h : w ∈ tables_1_1) : w ∈ lw_tbl := List.mem_append_right _ (show w ∈ tables_1_1 ++ (tables_1_2 ++ (tables_1_3 ++ (tables_1_4 ++ tables_1_5))) from List.mem_append_left _ h)
theorem gt_1 {w : Cond} (h : w ∈ tables_1_1) (g : goodWord w = true) : w ∈ gT := List.mem_filter.mpr ⟨lt_1 h, g⟩
theorem lt_2 {w : Cond} (h : w ∈ tables_1_2) : w ∈ lw_tbl := List.mem_append_right _ (show w ∈ tables_1_1 ++ (tables_1_2 ++ (tables_1_3 ++ (tables_1_4 ++ tables_1_5))) from List.mem_append_right _ (List.mem_append_left _ h))
theorem gt_2 {w : Cond} (h : w ∈ tables_1_2) (g : goodWord w = true) : w ∈ gT := List.mem_filter.mpr ⟨lt_2 h, g⟩
theorem lt_3 {w : Cond} (h : w ∈ tables_1_3) : w ∈ lw_tbl := List.mem_append_right _ (show w ∈ tables_1_1 ++ (tables_1_2 ++ (tables_1_3 ++ (tables_1_4 ++ tables_1_5))) from List.mem_append_right _ (List.mem_append_right _ (List.mem_append_left _ h)))
theorem gt_3 {w : Cond} (h : w ∈ tables_1_3) (g : goodWord w = true) : w ∈ gT := List.mem_filter.mpr ⟨lt_3 h, g⟩
theorem lt_4 {w : Cond} (h : w ∈ tables_1_4) : w ∈ lw_tbl := List.mem_append_right _ (show w ∈ tables_1_1 ++ (tables_1_2 ++ (tables_1_3 ++ (tables_1_4 ++ tables_1_5))) from List.mem_append_right _ (List.mem_append_right _ (List.mem_append_right _ (List.mem_append_left _ h))))
theorem gt_4 {w : Cond} (h : w ∈ tables_1_4) (g : goodWord w = true) : w ∈ gT := List.mem_filter.mpr ⟨lt_4 h, g⟩
theorem lt_5 {w : Cond} (h : w ∈ tables_1_5) : w ∈ lw_tbl := List.mem_append_right _ (show w ∈ tables_1_1 ++ (tables_1_2 ++ (tables_1_3 ++ (tables_1_4 ++ tables_1_5))) from List.mem_append_right _ (List.mem_append_right _ (List.mem_append_right _ (List.mem_append_right _ (h)))))
theorem gt_5 {w : Cond} (h : w ∈ tables_1_5) (g : goodWord w = true) : w ∈ gT := List.mem_filter.mpr ⟨lt_5 h, g⟩
theorem wd_0 : (.initialized R_law : Cond) ∈ gT := gt_1 (List.mem_of_getElem? (i := 0) (by decide +kernel)) rfl
theorem wd_1 : (.initialized RX11 : Cond) ∈ gT := gt_1 (List.mem_of_getElem? (i := 1) (by decide +kernel)) rfl
theorem wd_2 : (.initialized RX8 : Cond) ∈ gT := gt_1 (List.mem_of_getElem? (i := 2) (by decide +kernel)) rfl
theorem wd_3 : (.initialized RX3 : Cond) ∈ gT := gt_1 (List.mem_of_getElem? (i := 3) (by decide +kernel)) rfl
theorem wd_4 : (.initialized RX7 : Cond) ∈ gT := gt_1 (List.mem_of_getElem? (i := 4) (by decide +kernel)) rfl
theorem wd_5 : (.initialized RX0 : Cond) ∈ gT := gt_1 (List.mem_of_getElem? (i := 5) (by decide +kernel)) rfl
theorem wd_6 : (.initialized RX1 : Cond) ∈ gT := gt_1 (List.mem_of_getElem? (i := 6) (by decide +kernel)) rfl
theorem wd_7 : (.initialized RX10 : Cond) ∈ gT := gt_1 (List.mem_of_getElem? (i := 7) (by decide +kernel)) rfl
theorem wd_8 : (.initialized RX4 : Cond) ∈ gT := gt_1 (List.mem_of_getElem? (i := 8) (by decide +kernel)) rfl
theorem wd_9 : (.initialized RX9 : Cond) ∈ gT := gt_1 (List.mem_of_getElem? (i := 9) (by decide +kernel)) rfl
theorem wd_10 : (.initialized RX2 : Cond) ∈ gT := gt_1 (List.mem_of_getElem? (i := 10) (by decide +kernel)) rfl
theorem wd_11 : (.initialized RX5 : Cond) ∈ gT := gt_1 (List.mem_of_getElem? (i := 11) (by decide +kernel)) rfl
theorem wd_12 : (.initialized RX6 : Cond) ∈ gT := gt_1 (List.mem_of_getElem? (i := 12) (by decide +kernel)) rfl
theorem wd_13 : (.initialized RX12 : Cond) ∈ gT := gt_1 (List.mem_of_getElem? (i := 13) (by decide +kernel)) rfl
theorem wd_14 : (.initialized "java/lang/Math" : Cond) ∈ gT := gt_1 (List.mem_of_getElem? (i := 14) (by decide +kernel)) rfl
theorem wd_15 : (.initialized "java/lang/System" : Cond) ∈ gT := gt_1 (List.mem_of_getElem? (i := 15) (by decide +kernel)) rfl
theorem wd_16 : (.classLink R_law 7 RX11 : Cond) ∈ gT := gt_1 (List.mem_of_getElem? (i := 16) (by decide +kernel)) rfl
theorem wd_17 : (.instantiable RX11 9 : Cond) ∈ gT := gt_1 (List.mem_of_getElem? (i := 17) (by decide +kernel)) rfl
theorem wd_18 : (.methodLink R_law 9 yX11_init : Cond) ∈ gT := gt_1 (List.mem_of_getElem? (i := 18) (by decide +kernel)) rfl
theorem wd_19 : (.instanceMethod yX11_init : Cond) ∈ gT := gt_1 (List.mem_of_getElem? (i := 19) (by decide +kernel)) rfl
theorem wd_20 : (.code yX11_init cX11_init 1 none : Cond) ∈ gT := gt_1 (List.mem_of_getElem? (i := 20) (rfl)) rfl
theorem wd_21 : (.methodLink RX11 3 Lib.objectInit : Cond) ∈ gT := gt_1 (List.mem_of_getElem? (i := 21) (by decide +kernel)) rfl
theorem wd_22 : (.instanceMethod Lib.objectInit : Cond) ∈ gT := gt_1 (List.mem_of_getElem? (i := 22) (by decide +kernel)) rfl
theorem wd_23 : (.code Lib.objectInit ⟨#[0xb1]⟩ 1 none : Cond) ∈ gT := gt_1 (List.mem_of_getElem? (i := 23) (rfl)) rfl
theorem wd_24 : (.classLink RX11 9 RX8 : Cond) ∈ gT := gt_1 (List.mem_of_getElem? (i := 24) (by decide +kernel)) rfl
theorem wd_25 : (.instantiable RX8 1 : Cond) ∈ gT := gt_1 (List.mem_of_getElem? (i := 25) (by decide +kernel)) rfl
theorem wn_26 : (.methodLinkNest RX11 11 yX8_init "BreathSquare" : Cond) ∈ lw_tbl := lt_1 (List.mem_of_getElem? (i := 26) (by decide +kernel))
theorem wd_27 : (.instanceMethod yX8_init : Cond) ∈ gT := gt_1 (List.mem_of_getElem? (i := 27) (by decide +kernel)) rfl
theorem wd_28 : (.code yX8_init cX8_init 1 none : Cond) ∈ gT := gt_1 (List.mem_of_getElem? (i := 28) (rfl)) rfl
theorem wd_29 : (.methodLink RX8 1 Lib.objectInit : Cond) ∈ gT := gt_1 (List.mem_of_getElem? (i := 29) (by decide +kernel)) rfl
theorem wd_30 : (.fieldLink RX8 7 "BreathSquare$Trace" "left" "I" : Cond) ∈ gT := gt_1 (List.mem_of_getElem? (i := 30) (by decide +kernel)) rfl
theorem wn_31 : (.fieldLinkNest RX11 281 "BreathSquare$Trace" "left" "I" "BreathSquare" : Cond) ∈ lw_tbl := lt_1 (List.mem_of_getElem? (i := 31) (by decide +kernel))
theorem wd_34 : (.superclass RX8 "java/lang/Object" : Cond) ∈ gT := gt_1 (List.mem_of_getElem? (i := 34) (by decide +kernel)) rfl
theorem wd_35 : (.classLink RX11 18 RX3 : Cond) ∈ gT := gt_1 (List.mem_of_getElem? (i := 35) (by decide +kernel)) rfl
theorem wd_36 : (.instantiable RX3 10 : Cond) ∈ gT := gt_1 (List.mem_of_getElem? (i := 36) (by decide +kernel)) rfl
theorem wn_37 : (.methodLinkNest RX11 20 yX3_init "BreathSquare" : Cond) ∈ lw_tbl := lt_1 (List.mem_of_getElem? (i := 37) (by decide +kernel))
theorem wd_38 : (.instanceMethod yX3_init : Cond) ∈ gT := gt_1 (List.mem_of_getElem? (i := 38) (by decide +kernel)) rfl
theorem wd_39 : (.code yX3_init cX3_init 1 none : Cond) ∈ gT := gt_1 (List.mem_of_getElem? (i := 39) (rfl)) rfl
theorem wd_40 : (.methodLink RX3 3 Lib.objectInit : Cond) ∈ gT := gt_1 (List.mem_of_getElem? (i := 40) (by decide +kernel)) rfl
theorem wd_41 : (.classLink RX3 9 RX7 : Cond) ∈ gT := gt_1 (List.mem_of_getElem? (i := 41) (by decide +kernel)) rfl
theorem wn_42 : (.arrayOver (.object "BreathSquare$Stone") : Cond) ∈ lw_tbl := lt_1 (List.mem_of_getElem? (i := 42) (by decide +kernel))
theorem wd_43 : (.instantiable RX7 0 : Cond) ∈ gT := gt_1 (List.mem_of_getElem? (i := 43) (by decide +kernel)) rfl
theorem wn_44 : (.methodLinkNest RX3 11 yX7_init "BreathSquare" : Cond) ∈ lw_tbl := lt_1 (List.mem_of_getElem? (i := 44) (by decide +kernel))
theorem wd_45 : (.instanceMethod yX7_init : Cond) ∈ gT := gt_1 (List.mem_of_getElem? (i := 45) (by decide +kernel)) rfl
theorem wd_46 : (.code yX7_init cX7_init 1 none : Cond) ∈ gT := gt_1 (List.mem_of_getElem? (i := 46) (rfl)) rfl
theorem wd_47 : (.methodLink RX7 1 Lib.objectInit : Cond) ∈ gT := gt_1 (List.mem_of_getElem? (i := 47) (by decide +kernel)) rfl
theorem wd_48 : (.superclass RX7 "java/lang/Object" : Cond) ∈ gT := gt_1 (List.mem_of_getElem? (i := 48) (by decide +kernel)) rfl
theorem wd_49 : (.classLink RX3 12 RX0 : Cond) ∈ gT := gt_1 (List.mem_of_getElem? (i := 49) (by decide +kernel)) rfl
theorem wd_50 : (.instantiable RX0 0 : Cond) ∈ gT := gt_1 (List.mem_of_getElem? (i := 50) (by decide +kernel)) rfl
theorem wn_51 : (.methodLinkNest RX3 14 yX0_init "BreathSquare" : Cond) ∈ lw_tbl := lt_1 (List.mem_of_getElem? (i := 51) (by decide +kernel))
theorem wd_52 : (.instanceMethod yX0_init : Cond) ∈ gT := gt_1 (List.mem_of_getElem? (i := 52) (by decide +kernel)) rfl
theorem wd_53 : (.code yX0_init cX0_init 1 none : Cond) ∈ gT := gt_1 (List.mem_of_getElem? (i := 53) (rfl)) rfl
theorem wn_54 : (.methodLinkNest RX0 1 yX7_init "BreathSquare" : Cond) ∈ lw_tbl := lt_1 (List.mem_of_getElem? (i := 54) (by decide +kernel))
theorem wd_55 : (.superclass RX0 RX7 : Cond) ∈ gT := gt_1 (List.mem_of_getElem? (i := 55) (by decide +kernel)) rfl
theorem wd_56 : (.classLink RX3 15 RX1 : Cond) ∈ gT := gt_1 (List.mem_of_getElem? (i := 56) (by decide +kernel)) rfl
theorem wd_57 : (.instantiable RX1 0 : Cond) ∈ gT := gt_1 (List.mem_of_getElem? (i := 57) (by decide +kernel)) rfl
theorem wn_58 : (.methodLinkNest RX3 17 yX1_init "BreathSquare" : Cond) ∈ lw_tbl := lt_1 (List.mem_of_getElem? (i := 58) (by decide +kernel))
theorem wd_59 : (.instanceMethod yX1_init : Cond) ∈ gT := gt_1 (List.mem_of_getElem? (i := 59) (by decide +kernel)) rfl
theorem wd_60 : (.code yX1_init cX1_init 1 none : Cond) ∈ gT := gt_1 (List.mem_of_getElem? (i := 60) (rfl)) rfl
theorem wn_61 : (.methodLinkNest RX1 1 yX0_init "BreathSquare" : Cond) ∈ lw_tbl := lt_1 (List.mem_of_getElem? (i := 61) (by decide +kernel))
theorem wd_62 : (.superclass RX1 RX0 : Cond) ∈ gT := gt_1 (List.mem_of_getElem? (i := 62) (by decide +kernel)) rfl
theorem wd_63 : (.fieldLink RX3 18 "BreathSquare$Paving" "bodies" "[LBreathSquare$Stone;" : Cond) ∈ gT := gt_1 (List.mem_of_getElem? (i := 63) (by decide +kernel)) rfl
theorem wd_64 : (.fieldLink RX3 24 "BreathSquare$Paving" "kindOf" "[I" : Cond) ∈ gT := gt_1 (List.mem_of_getElem? (i := 64) (by decide +kernel)) rfl
theorem wn_65 : (.fieldLinkNest RX11 109 "BreathSquare$Paving" "kindOf" "[I" "BreathSquare" : Cond) ∈ lw_tbl := lt_1 (List.mem_of_getElem? (i := 65) (by decide +kernel))
theorem wd_66 : (.fieldLink RX3 28 "BreathSquare$Paving" "ground" "[I" : Cond) ∈ gT := gt_1 (List.mem_of_getElem? (i := 66) (by decide +kernel)) rfl
theorem wn_67 : (.fieldLinkNest RX11 113 "BreathSquare$Paving" "ground" "[I" "BreathSquare" : Cond) ∈ lw_tbl := lt_1 (List.mem_of_getElem? (i := 67) (by decide +kernel))
theorem wd_68 : (.fieldLink RX3 31 "BreathSquare$Paving" "lifted" "[I" : Cond) ∈ gT := gt_1 (List.mem_of_getElem? (i := 68) (by decide +kernel)) rfl
theorem wn_69 : (.fieldLinkNest RX11 116 "BreathSquare$Paving" "lifted" "[I" "BreathSquare" : Cond) ∈ lw_tbl := lt_1 (List.mem_of_getElem? (i := 69) (by decide +kernel))
theorem wd_70 : (.fieldLink RX3 34 "BreathSquare$Paving" "rowOf" "[I" : Cond) ∈ gT := gt_1 (List.mem_of_getElem? (i := 70) (by decide +kernel)) rfl
theorem wn_71 : (.fieldLinkNest RX4 67 "BreathSquare$Paving" "rowOf" "[I" "BreathSquare" : Cond) ∈ lw_tbl := lt_1 (List.mem_of_getElem? (i := 71) (by decide +kernel))
theorem wd_72 : (.fieldLink RX3 37 "BreathSquare$Paving" "columnOf" "[I" : Cond) ∈ gT := gt_1 (List.mem_of_getElem? (i := 72) (by decide +kernel)) rfl
theorem wn_73 : (.fieldLinkNest RX4 73 "BreathSquare$Paving" "columnOf" "[I" "BreathSquare" : Cond) ∈ lw_tbl := lt_1 (List.mem_of_getElem? (i := 73) (by decide +kernel))
theorem wd_74 : (.fieldLink RX3 40 "BreathSquare$Paving" "wet" "[I" : Cond) ∈ gT := gt_1 (List.mem_of_getElem? (i := 74) (by decide +kernel)) rfl
theorem wn_75 : (.fieldLinkNest RX11 130 "BreathSquare$Paving" "wet" "[I" "BreathSquare" : Cond) ∈ lw_tbl := lt_1 (List.mem_of_getElem? (i := 75) (by decide +kernel))
theorem wd_76 : (.fieldLink RX3 43 "BreathSquare$Paving" "frost" "[I" : Cond) ∈ gT := gt_1 (List.mem_of_getElem? (i := 76) (by decide +kernel)) rfl
theorem wn_77 : (.fieldLinkNest RX11 133 "BreathSquare$Paving" "frost" "[I" "BreathSquare" : Cond) ∈ lw_tbl := lt_1 (List.mem_of_getElem? (i := 77) (by decide +kernel))
theorem wd_78 : (.fieldLink RX3 69 "BreathSquare$Paving" "high" "I" : Cond) ∈ gT := gt_1 (List.mem_of_getElem? (i := 78) (by decide +kernel)) rfl
theorem wn_79 : (.fieldLinkNest RX4 28 "BreathSquare$Paving" "wide" "I" "BreathSquare" : Cond) ∈ lw_tbl := lt_1 (List.mem_of_getElem? (i := 79) (by decide +kernel))
theorem wd_80 : (.fieldLink RX3 73 "BreathSquare$Paving" "wide" "I" : Cond) ∈ gT := gt_1 (List.mem_of_getElem? (i := 80) (by decide +kernel)) rfl
theorem wn_81 : (.fieldLinkNest RX11 284 "BreathSquare$Paving" "wide" "I" "BreathSquare" : Cond) ∈ lw_tbl := lt_1 (List.mem_of_getElem? (i := 81) (by decide +kernel))
theorem wd_102 : (.superclass RX3 "java/lang/Object" : Cond) ∈ gT := gt_1 (List.mem_of_getElem? (i := 102) (by decide +kernel)) rfl
theorem wd_103 : (.arrayClass .int : Cond) ∈ gT := gt_1 (List.mem_of_getElem? (i := 103) (by decide +kernel)) rfl
theorem wd_104 : (.classLink RX11 25 RX10 : Cond) ∈ gT := gt_1 (List.mem_of_getElem? (i := 104) (by decide +kernel)) rfl
theorem wd_105 : (.instantiable RX10 6 : Cond) ∈ gT := gt_1 (List.mem_of_getElem? (i := 105) (by decide +kernel)) rfl
theorem wd_106 : (.methodLink RX11 27 yX10_init : Cond) ∈ gT := gt_1 (List.mem_of_getElem? (i := 106) (by decide +kernel)) rfl
theorem wd_107 : (.instanceMethod yX10_init : Cond) ∈ gT := gt_1 (List.mem_of_getElem? (i := 107) (by decide +kernel)) rfl
theorem wd_108 : (.code yX10_init cX10_init 2 none : Cond) ∈ gT := gt_1 (List.mem_of_getElem? (i := 108) (rfl)) rfl
theorem wd_109 : (.methodLink RX10 3 Lib.objectInit : Cond) ∈ gT := gt_1 (List.mem_of_getElem? (i := 109) (by decide +kernel)) rfl
theorem wd_110 : (.fieldLink RX10 27 "BreathSquare$Ways" "paving" "LBreathSquare$Paving;" : Cond) ∈ gT := gt_1 (List.mem_of_getElem? (i := 110) (by decide +kernel)) rfl
theorem wd_111 : (.fieldLink RX10 9 "BreathSquare$Ways" "heights" "[I" : Cond) ∈ gT := gt_1 (List.mem_of_getElem? (i := 111) (by decide +kernel)) rfl
theorem wd_112 : (.fieldLink RX10 15 "BreathSquare$Ways" "stepRight" "[I" : Cond) ∈ gT := gt_1 (List.mem_of_getElem? (i := 112) (by decide +kernel)) rfl
theorem wd_113 : (.fieldLink RX10 18 "BreathSquare$Ways" "stepDown" "[I" : Cond) ∈ gT := gt_1 (List.mem_of_getElem? (i := 113) (by decide +kernel)) rfl
theorem wd_114 : (.fieldLink RX10 21 "BreathSquare$Ways" "steps" "[I" : Cond) ∈ gT := gt_1 (List.mem_of_getElem? (i := 114) (by decide +kernel)) rfl
theorem wn_115 : (.fieldLinkNest RX11 156 "BreathSquare$Ways" "steps" "[I" "BreathSquare" : Cond) ∈ lw_tbl := lt_1 (List.mem_of_getElem? (i := 115) (by decide +kernel))
theorem wd_116 : (.fieldLink RX10 24 "BreathSquare$Ways" "queue" "[I" : Cond) ∈ gT := gt_1 (List.mem_of_getElem? (i := 116) (by decide +kernel)) rfl
theorem wd_129 : (.superclass RX10 "java/lang/Object" : Cond) ∈ gT := gt_1 (List.mem_of_getElem? (i := 129) (by decide +kernel)) rfl
theorem wd_130 : (.classLink RX11 34 RX4 : Cond) ∈ gT := gt_1 (List.mem_of_getElem? (i := 130) (by decide +kernel)) rfl
theorem wd_131 : (.instantiable RX4 6 : Cond) ∈ gT := gt_1 (List.mem_of_getElem? (i := 131) (by decide +kernel)) rfl
theorem wd_132 : (.methodLink RX11 36 yX4_init : Cond) ∈ gT := gt_1 (List.mem_of_getElem? (i := 132) (by decide +kernel)) rfl
theorem wd_133 : (.instanceMethod yX4_init : Cond) ∈ gT := gt_1 (List.mem_of_getElem? (i := 133) (by decide +kernel)) rfl
theorem wd_134 : (.code yX4_init cX4_init 2 none : Cond) ∈ gT := gt_1 (List.mem_of_getElem? (i := 134) (rfl)) rfl
theorem wd_135 : (.methodLink RX4 3 Lib.objectInit : Cond) ∈ gT := gt_1 (List.mem_of_getElem? (i := 135) (by decide +kernel)) rfl
theorem wd_136 : (.fieldLink RX4 18 "BreathSquare$Places" "paving" "LBreathSquare$Paving;" : Cond) ∈ gT := gt_1 (List.mem_of_getElem? (i := 136) (by decide +kernel)) rfl
theorem wd_137 : (.fieldLink RX4 9 "BreathSquare$Places" "heights" "[I" : Cond) ∈ gT := gt_1 (List.mem_of_getElem? (i := 137) (by decide +kernel)) rfl
theorem wd_138 : (.fieldLink RX4 15 "BreathSquare$Places" "wedgesOf" "[I" : Cond) ∈ gT := gt_1 (List.mem_of_getElem? (i := 138) (by decide +kernel)) rfl
theorem wd_139 : (.fieldLink RX4 50 "BreathSquare$Places" "first" "I" : Cond) ∈ gT := gt_1 (List.mem_of_getElem? (i := 139) (by decide +kernel)) rfl
theorem wn_140 : (.fieldLinkNest RX11 188 "BreathSquare$Places" "first" "I" "BreathSquare" : Cond) ∈ lw_tbl := lt_1 (List.mem_of_getElem? (i := 140) (by decide +kernel))
theorem wd_141 : (.fieldLink RX4 53 "BreathSquare$Places" "second" "I" : Cond) ∈ gT := gt_1 (List.mem_of_getElem? (i := 141) (by decide +kernel)) rfl
theorem wn_142 : (.fieldLinkNest RX11 191 "BreathSquare$Places" "second" "I" "BreathSquare" : Cond) ∈ lw_tbl := lt_1 (List.mem_of_getElem? (i := 142) (by decide +kernel))
theorem wd_143 : (.fieldLink RX4 56 "BreathSquare$Places" "together" "I" : Cond) ∈ gT := gt_1 (List.mem_of_getElem? (i := 143) (by decide +kernel)) rfl
theorem wn_144 : (.fieldLinkNest RX11 185 "BreathSquare$Places" "together" "I" "BreathSquare" : Cond) ∈ lw_tbl := lt_1 (List.mem_of_getElem? (i := 144) (by decide +kernel))
theorem wd_157 : (.superclass RX4 "java/lang/Object" : Cond) ∈ gT := gt_1 (List.mem_of_getElem? (i := 157) (by decide +kernel)) rfl
theorem wd_158 : (.classLink RX11 41 RX9 : Cond) ∈ gT := gt_1 (List.mem_of_getElem? (i := 158) (by decide +kernel)) rfl
theorem wd_159 : (.instantiable RX9 3 : Cond) ∈ gT := gt_1 (List.mem_of_getElem? (i := 159) (by decide +kernel)) rfl
theorem wd_160 : (.methodLink RX11 43 yX9_init : Cond) ∈ gT := gt_1 (List.mem_of_getElem? (i := 160) (by decide +kernel)) rfl
theorem wd_161 : (.instanceMethod yX9_init : Cond) ∈ gT := gt_1 (List.mem_of_getElem? (i := 161) (by decide +kernel)) rfl
theorem wd_162 : (.code yX9_init cX9_init 2 none : Cond) ∈ gT := gt_1 (List.mem_of_getElem? (i := 162) (rfl)) rfl
theorem wd_163 : (.methodLink RX9 3 Lib.objectInit : Cond) ∈ gT := gt_1 (List.mem_of_getElem? (i := 163) (by decide +kernel)) rfl
theorem wd_164 : (.fieldLink RX9 18 "BreathSquare$Water" "paving" "LBreathSquare$Paving;" : Cond) ∈ gT := gt_1 (List.mem_of_getElem? (i := 164) (by decide +kernel)) rfl
theorem wd_165 : (.fieldLink RX9 9 "BreathSquare$Water" "heights" "[I" : Cond) ∈ gT := gt_1 (List.mem_of_getElem? (i := 165) (by decide +kernel)) rfl
theorem wd_166 : (.fieldLink RX9 15 "BreathSquare$Water" "levels" "[I" : Cond) ∈ gT := gt_1 (List.mem_of_getElem? (i := 166) (by decide +kernel)) rfl
theorem wd_173 : (.superclass RX9 "java/lang/Object" : Cond) ∈ gT := gt_1 (List.mem_of_getElem? (i := 173) (by decide +kernel)) rfl
theorem wd_174 : (.classLink RX11 48 RX2 : Cond) ∈ gT := gt_1 (List.mem_of_getElem? (i := 174) (by decide +kernel)) rfl
theorem wd_175 : (.instantiable RX2 2 : Cond) ∈ gT := gt_1 (List.mem_of_getElem? (i := 175) (by decide +kernel)) rfl
theorem wd_176 : (.methodLink RX11 50 yX2_init : Cond) ∈ gT := gt_1 (List.mem_of_getElem? (i := 176) (by decide +kernel)) rfl
theorem wd_177 : (.instanceMethod yX2_init : Cond) ∈ gT := gt_1 (List.mem_of_getElem? (i := 177) (by decide +kernel)) rfl
theorem wd_178 : (.code yX2_init cX2_init 2 none : Cond) ∈ gT := gt_1 (List.mem_of_getElem? (i := 178) (rfl)) rfl
theorem wd_179 : (.methodLink RX2 3 Lib.objectInit : Cond) ∈ gT := gt_1 (List.mem_of_getElem? (i := 179) (by decide +kernel)) rfl
theorem wd_180 : (.fieldLink RX2 15 "BreathSquare$Mason" "paving" "LBreathSquare$Paving;" : Cond) ∈ gT := gt_1 (List.mem_of_getElem? (i := 180) (by decide +kernel)) rfl
theorem wd_181 : (.fieldLink RX2 9 "BreathSquare$Mason" "ranks" "[I" : Cond) ∈ gT := gt_1 (List.mem_of_getElem? (i := 181) (by decide +kernel)) rfl
theorem wd_186 : (.superclass RX2 "java/lang/Object" : Cond) ∈ gT := gt_1 (List.mem_of_getElem? (i := 186) (by decide +kernel)) rfl
theorem wd_187 : (.classLink RX11 55 RX5 : Cond) ∈ gT := gt_1 (List.mem_of_getElem? (i := 187) (by decide +kernel)) rfl
theorem wd_188 : (.instantiable RX5 5 : Cond) ∈ gT := gt_1 (List.mem_of_getElem? (i := 188) (by decide +kernel)) rfl
theorem wd_189 : (.methodLink RX11 57 yX5_init : Cond) ∈ gT := gt_1 (List.mem_of_getElem? (i := 189) (by decide +kernel)) rfl
theorem wd_190 : (.instanceMethod yX5_init : Cond) ∈ gT := gt_1 (List.mem_of_getElem? (i := 190) (by decide +kernel)) rfl
theorem wd_191 : (.code yX5_init cX5_init 2 none : Cond) ∈ gT := gt_1 (List.mem_of_getElem? (i := 191) (rfl)) rfl
theorem wd_192 : (.methodLink RX5 3 Lib.objectInit : Cond) ∈ gT := gt_1 (List.mem_of_getElem? (i := 192) (by decide +kernel)) rfl
theorem wd_193 : (.fieldLink RX5 21 "BreathSquare$Readings" "paving" "LBreathSquare$Paving;" : Cond) ∈ gT := gt_1 (List.mem_of_getElem? (i := 193) (by decide +kernel)) rfl
theorem wd_194 : (.fieldLink RX5 9 "BreathSquare$Readings" "stoneOf" "[I" : Cond) ∈ gT := gt_1 (List.mem_of_getElem? (i := 194) (by decide +kernel)) rfl
theorem wd_195 : (.fieldLink RX5 15 "BreathSquare$Readings" "monthOf" "[I" : Cond) ∈ gT := gt_1 (List.mem_of_getElem? (i := 195) (by decide +kernel)) rfl
theorem wd_196 : (.fieldLink RX5 18 "BreathSquare$Readings" "heightRead" "[I" : Cond) ∈ gT := gt_1 (List.mem_of_getElem? (i := 196) (by decide +kernel)) rfl
theorem wd_197 : (.fieldLink RX5 25 "BreathSquare$Readings" "count" "I" : Cond) ∈ gT := gt_1 (List.mem_of_getElem? (i := 197) (by decide +kernel)) rfl
theorem wn_198 : (.fieldLinkNest RX11 230 "BreathSquare$Readings" "count" "I" "BreathSquare" : Cond) ∈ lw_tbl := lt_1 (List.mem_of_getElem? (i := 198) (by decide +kernel))
theorem wd_209 : (.superclass RX5 "java/lang/Object" : Cond) ∈ gT := gt_1 (List.mem_of_getElem? (i := 209) (by decide +kernel)) rfl
theorem wd_210 : (.classLink RX11 62 RX6 : Cond) ∈ gT := gt_1 (List.mem_of_getElem? (i := 210) (by decide +kernel)) rfl
theorem wn_211 : (.arrayOver (.object "BreathSquare$Sheet") : Cond) ∈ lw_tbl := lt_1 (List.mem_of_getElem? (i := 211) (by decide +kernel))
theorem wd_212 : (.instantiable RX6 3 : Cond) ∈ gT := gt_1 (List.mem_of_getElem? (i := 212) (by decide +kernel)) rfl
theorem wn_213 : (.methodLinkNest RX11 64 yX6_init "BreathSquare" : Cond) ∈ lw_tbl := lt_1 (List.mem_of_getElem? (i := 213) (by decide +kernel))
theorem wd_214 : (.instanceMethod yX6_init : Cond) ∈ gT := gt_1 (List.mem_of_getElem? (i := 214) (by decide +kernel)) rfl
theorem wd_215 : (.code yX6_init cX6_init 1 none : Cond) ∈ gT := gt_1 (List.mem_of_getElem? (i := 215) (rfl)) rfl
theorem wd_216 : (.methodLink RX6 3 Lib.objectInit : Cond) ∈ gT := gt_1 (List.mem_of_getElem? (i := 216) (by decide +kernel)) rfl
theorem wd_217 : (.fieldLink RX6 9 "BreathSquare$Sheet" "cells" "[I" : Cond) ∈ gT := gt_1 (List.mem_of_getElem? (i := 217) (by decide +kernel)) rfl
theorem wn_218 : (.fieldLinkNest RX3 46 "BreathSquare$Sheet" "cells" "[I" "BreathSquare" : Cond) ∈ lw_tbl := lt_1 (List.mem_of_getElem? (i := 218) (by decide +kernel))
theorem wn_219 : (.fieldLinkNest RX11 256 "BreathSquare$Sheet" "cells" "[I" "BreathSquare" : Cond) ∈ lw_tbl := lt_1 (List.mem_of_getElem? (i := 219) (by decide +kernel))
theorem wd_220 : (.fieldLink RX6 15 "BreathSquare$Sheet" "sort" "I" : Cond) ∈ gT := gt_1 (List.mem_of_getElem? (i := 220) (by decide +kernel)) rfl
theorem wn_221 : (.fieldLinkNest RX11 259 "BreathSquare$Sheet" "sort" "I" "BreathSquare" : Cond) ∈ lw_tbl := lt_1 (List.mem_of_getElem? (i := 221) (by decide +kernel))
theorem wd_222 : (.fieldLink RX6 23 "BreathSquare$Sheet" "length" "I" : Cond) ∈ gT := gt_1 (List.mem_of_getElem? (i := 222) (by decide +kernel)) rfl
theorem wd_229 : (.superclass RX6 "java/lang/Object" : Cond) ∈ gT := gt_1 (List.mem_of_getElem? (i := 229) (by decide +kernel)) rfl
theorem wd_230 : (.fieldLink RX11 12 "BreathSquare" "traces" "LBreathSquare$Trace;" : Cond) ∈ gT := gt_1 (List.mem_of_getElem? (i := 230) (by decide +kernel)) rfl
theorem wd_231 : (.fieldLink RX11 21 "BreathSquare" "paving" "LBreathSquare$Paving;" : Cond) ∈ gT := gt_1 (List.mem_of_getElem? (i := 231) (by decide +kernel)) rfl
theorem wd_232 : (.fieldLink RX11 30 "BreathSquare" "ways" "LBreathSquare$Ways;" : Cond) ∈ gT := gt_1 (List.mem_of_getElem? (i := 232) (by decide +kernel)) rfl
theorem wd_233 : (.fieldLink RX11 37 "BreathSquare" "places" "LBreathSquare$Places;" : Cond) ∈ gT := gt_1 (List.mem_of_getElem? (i := 233) (by decide +kernel)) rfl
theorem wd_234 : (.fieldLink RX11 44 "BreathSquare" "water" "LBreathSquare$Water;" : Cond) ∈ gT := gt_1 (List.mem_of_getElem? (i := 234) (by decide +kernel)) rfl
theorem wd_235 : (.fieldLink RX11 51 "BreathSquare" "mason" "LBreathSquare$Mason;" : Cond) ∈ gT := gt_1 (List.mem_of_getElem? (i := 235) (by decide +kernel)) rfl
theorem wd_236 : (.fieldLink RX11 58 "BreathSquare" "readings" "LBreathSquare$Readings;" : Cond) ∈ gT := gt_1 (List.mem_of_getElem? (i := 236) (by decide +kernel)) rfl
theorem wd_237 : (.fieldLink RX11 65 "BreathSquare" "sheets" "[LBreathSquare$Sheet;" : Cond) ∈ gT := gt_1 (List.mem_of_getElem? (i := 237) (by decide +kernel)) rfl
theorem wd_238 : (.fieldLink RX11 69 "BreathSquare" "latestFault" "I" : Cond) ∈ gT := gt_1 (List.mem_of_getElem? (i := 238) (by decide +kernel)) rfl
theorem wd_257 : (.superclass RX11 "java/lang/Object" : Cond) ∈ gT := gt_2 (List.mem_of_getElem? (i := 17) (by decide +kernel)) rfl
theorem wd_258 : (.methodLink R_law 13 yX11_square : Cond) ∈ gT := gt_2 (List.mem_of_getElem? (i := 18) (by decide +kernel)) rfl
theorem wd_259 : (.instanceMethod yX11_square : Cond) ∈ gT := gt_2 (List.mem_of_getElem? (i := 19) (by decide +kernel)) rfl
theorem wd_260 : (.selects RX11 yX11_square yX11_square : Cond) ∈ gT := gt_2 (List.mem_of_getElem? (i := 20) (by decide +kernel)) rfl
theorem wd_261 : (.code yX11_square cX11_square 8 (some .int) : Cond) ∈ gT := gt_2 (List.mem_of_getElem? (i := 21) (rfl)) rfl
theorem wd_262 : (.methodLink RX11 73 yX11_isSheet : Cond) ∈ gT := gt_2 (List.mem_of_getElem? (i := 22) (by decide +kernel)) rfl
theorem wd_263 : (.static yX11_isSheet : Cond) ∈ gT := gt_2 (List.mem_of_getElem? (i := 23) (by decide +kernel)) rfl
theorem wd_264 : (.code yX11_isSheet cX11_isSheet 1 (some .boolean) : Cond) ∈ gT := gt_2 (List.mem_of_getElem? (i := 24) (rfl)) rfl
theorem wd_265 : (.methodLink RX11 122 yX11_isWithin : Cond) ∈ gT := gt_2 (List.mem_of_getElem? (i := 25) (by decide +kernel)) rfl
theorem wd_266 : (.static yX11_isWithin : Cond) ∈ gT := gt_2 (List.mem_of_getElem? (i := 26) (by decide +kernel)) rfl
theorem wd_267 : (.code yX11_isWithin cX11_isWithin 3 (some .boolean) : Cond) ∈ gT := gt_2 (List.mem_of_getElem? (i := 27) (rfl)) rfl
theorem wd_268 : (.methodLink RX11 77 yX11_isSort : Cond) ∈ gT := gt_2 (List.mem_of_getElem? (i := 28) (by decide +kernel)) rfl
theorem wd_269 : (.static yX11_isSort : Cond) ∈ gT := gt_2 (List.mem_of_getElem? (i := 29) (by decide +kernel)) rfl
theorem wd_270 : (.code yX11_isSort cX11_isSort 1 (some .boolean) : Cond) ∈ gT := gt_2 (List.mem_of_getElem? (i := 30) (rfl)) rfl
theorem wd_271 : (.methodLink RX11 80 yX6_faultAs : Cond) ∈ gT := gt_2 (List.mem_of_getElem? (i := 31) (by decide +kernel)) rfl
theorem wd_272 : (.instanceMethod yX6_faultAs : Cond) ∈ gT := gt_2 (List.mem_of_getElem? (i := 32) (by decide +kernel)) rfl
theorem wd_273 : (.selects RX6 yX6_faultAs yX6_faultAs : Cond) ∈ gT := gt_2 (List.mem_of_getElem? (i := 33) (by decide +kernel)) rfl
theorem wd_274 : (.code yX6_faultAs cX6_faultAs 2 (some .int) : Cond) ∈ gT := gt_2 (List.mem_of_getElem? (i := 34) (rfl)) rfl
theorem wd_275 : (.methodLink RX6 19 yX6_isNothing : Cond) ∈ gT := gt_2 (List.mem_of_getElem? (i := 35) (by decide +kernel)) rfl
theorem wd_276 : (.instanceMethod yX6_isNothing : Cond) ∈ gT := gt_2 (List.mem_of_getElem? (i := 36) (by decide +kernel)) rfl
theorem wd_277 : (.selects RX6 yX6_isNothing yX6_isNothing : Cond) ∈ gT := gt_2 (List.mem_of_getElem? (i := 37) (by decide +kernel)) rfl
theorem wd_278 : (.code yX6_isNothing cX6_isNothing 1 (some .boolean) : Cond) ∈ gT := gt_2 (List.mem_of_getElem? (i := 38) (rfl)) rfl
theorem wd_279 : (.methodLink RX11 84 yX11_failed : Cond) ∈ gT := gt_2 (List.mem_of_getElem? (i := 39) (by decide +kernel)) rfl
theorem wd_281 : (.instanceMethod yX11_failed : Cond) ∈ gT := gt_2 (List.mem_of_getElem? (i := 41) (by decide +kernel)) rfl
theorem wd_282 : (.code yX11_failed cX11_failed 2 (some .int) : Cond) ∈ gT := gt_2 (List.mem_of_getElem? (i := 42) (rfl)) rfl
theorem wd_283 : (.methodLink RX11 87 yX6_hasCells : Cond) ∈ gT := gt_2 (List.mem_of_getElem? (i := 43) (by decide +kernel)) rfl
theorem wd_284 : (.instanceMethod yX6_hasCells : Cond) ∈ gT := gt_2 (List.mem_of_getElem? (i := 44) (by decide +kernel)) rfl
theorem wd_285 : (.selects RX6 yX6_hasCells yX6_hasCells : Cond) ∈ gT := gt_2 (List.mem_of_getElem? (i := 45) (by decide +kernel)) rfl
theorem wd_286 : (.code yX6_hasCells cX6_hasCells 3 (some .boolean) : Cond) ∈ gT := gt_2 (List.mem_of_getElem? (i := 46) (rfl)) rfl
theorem wd_287 : (.methodLink RX11 91 yX3_firstFault : Cond) ∈ gT := gt_2 (List.mem_of_getElem? (i := 47) (by decide +kernel)) rfl
theorem wd_288 : (.static yX3_firstFault : Cond) ∈ gT := gt_2 (List.mem_of_getElem? (i := 48) (by decide +kernel)) rfl
theorem wd_289 : (.code yX3_firstFault cX3_firstFault 9 (some .int) : Cond) ∈ gT := gt_2 (List.mem_of_getElem? (i := 49) (rfl)) rfl
theorem wd_290 : (.methodLink RX3 51 yX3_fitsHead : Cond) ∈ gT := gt_2 (List.mem_of_getElem? (i := 50) (by decide +kernel)) rfl
theorem wd_291 : (.static yX3_fitsHead : Cond) ∈ gT := gt_2 (List.mem_of_getElem? (i := 51) (by decide +kernel)) rfl
theorem wd_292 : (.code yX3_fitsHead cX3_fitsHead 2 (some .boolean) : Cond) ∈ gT := gt_2 (List.mem_of_getElem? (i := 52) (rfl)) rfl
theorem wn_293 : (.methodLinkNest RX3 63 yX11_isWithin "BreathSquare" : Cond) ∈ lw_tbl := lt_2 (List.mem_of_getElem? (i := 53) (by decide +kernel))
theorem wd_294 : (.methodLink RX3 55 yX3_fitsRow : Cond) ∈ gT := gt_2 (List.mem_of_getElem? (i := 54) (by decide +kernel)) rfl
theorem wd_295 : (.static yX3_fitsRow : Cond) ∈ gT := gt_2 (List.mem_of_getElem? (i := 55) (by decide +kernel)) rfl
theorem wd_296 : (.code yX3_fitsRow cX3_fitsRow 4 (some .boolean) : Cond) ∈ gT := gt_2 (List.mem_of_getElem? (i := 56) (rfl)) rfl
theorem wd_297 : (.methodLink RX3 59 yX3_rowLength : Cond) ∈ gT := gt_2 (List.mem_of_getElem? (i := 57) (by decide +kernel)) rfl
theorem wd_298 : (.static yX3_rowLength : Cond) ∈ gT := gt_2 (List.mem_of_getElem? (i := 58) (by decide +kernel)) rfl
theorem wd_299 : (.code yX3_rowLength cX3_rowLength 1 (some .int) : Cond) ∈ gT := gt_2 (List.mem_of_getElem? (i := 59) (rfl)) rfl
theorem wd_300 : (.methodLink RX3 66 yX3_kindBy : Cond) ∈ gT := gt_2 (List.mem_of_getElem? (i := 60) (by decide +kernel)) rfl
theorem wd_301 : (.static yX3_kindBy : Cond) ∈ gT := gt_2 (List.mem_of_getElem? (i := 61) (by decide +kernel)) rfl
theorem wd_302 : (.code yX3_kindBy cX3_kindBy 1 (some .int) : Cond) ∈ gT := gt_2 (List.mem_of_getElem? (i := 62) (rfl)) rfl
theorem wd_303 : (.methodLink RX11 95 yX3_lay : Cond) ∈ gT := gt_2 (List.mem_of_getElem? (i := 63) (by decide +kernel)) rfl
theorem wd_304 : (.instanceMethod yX3_lay : Cond) ∈ gT := gt_2 (List.mem_of_getElem? (i := 64) (by decide +kernel)) rfl
theorem wd_305 : (.selects RX3 yX3_lay yX3_lay : Cond) ∈ gT := gt_2 (List.mem_of_getElem? (i := 65) (by decide +kernel)) rfl
theorem wd_306 : (.code yX3_lay cX3_lay 7 none : Cond) ∈ gT := gt_2 (List.mem_of_getElem? (i := 66) (rfl)) rfl
theorem wd_307 : (.methodLink RX11 99 yX5_forgetAll : Cond) ∈ gT := gt_2 (List.mem_of_getElem? (i := 67) (by decide +kernel)) rfl
theorem wd_308 : (.instanceMethod yX5_forgetAll : Cond) ∈ gT := gt_2 (List.mem_of_getElem? (i := 68) (by decide +kernel)) rfl
theorem wd_309 : (.selects RX5 yX5_forgetAll yX5_forgetAll : Cond) ∈ gT := gt_2 (List.mem_of_getElem? (i := 69) (by decide +kernel)) rfl
theorem wd_310 : (.code yX5_forgetAll cX5_forgetAll 1 none : Cond) ∈ gT := gt_2 (List.mem_of_getElem? (i := 70) (rfl)) rfl
theorem wd_311 : (.methodLink RX11 102 yX3_stones : Cond) ∈ gT := gt_2 (List.mem_of_getElem? (i := 71) (by decide +kernel)) rfl
theorem wd_312 : (.instanceMethod yX3_stones : Cond) ∈ gT := gt_2 (List.mem_of_getElem? (i := 72) (by decide +kernel)) rfl
theorem wd_313 : (.selects RX3 yX3_stones yX3_stones : Cond) ∈ gT := gt_2 (List.mem_of_getElem? (i := 73) (by decide +kernel)) rfl
theorem wd_314 : (.code yX3_stones cX3_stones 1 (some .int) : Cond) ∈ gT := gt_2 (List.mem_of_getElem? (i := 74) (rfl)) rfl
theorem wd_315 : (.methodLink R_law 18 yX11_ofStone : Cond) ∈ gT := gt_2 (List.mem_of_getElem? (i := 75) (by decide +kernel)) rfl
theorem wd_316 : (.instanceMethod yX11_ofStone : Cond) ∈ gT := gt_2 (List.mem_of_getElem? (i := 76) (by decide +kernel)) rfl
theorem wd_317 : (.selects RX11 yX11_ofStone yX11_ofStone : Cond) ∈ gT := gt_2 (List.mem_of_getElem? (i := 77) (by decide +kernel)) rfl
theorem wd_318 : (.code yX11_ofStone cX11_ofStone 3 (some .int) : Cond) ∈ gT := gt_2 (List.mem_of_getElem? (i := 78) (rfl)) rfl
theorem wd_319 : (.methodLink RX11 106 yX3_has : Cond) ∈ gT := gt_2 (List.mem_of_getElem? (i := 79) (by decide +kernel)) rfl
theorem wd_320 : (.instanceMethod yX3_has : Cond) ∈ gT := gt_2 (List.mem_of_getElem? (i := 80) (by decide +kernel)) rfl
theorem wd_321 : (.selects RX3 yX3_has yX3_has : Cond) ∈ gT := gt_2 (List.mem_of_getElem? (i := 81) (by decide +kernel)) rfl
theorem wd_322 : (.code yX3_has cX3_has 2 (some .boolean) : Cond) ∈ gT := gt_2 (List.mem_of_getElem? (i := 82) (rfl)) rfl
theorem wd_323 : (.methodLink R_law 23 yX11_month : Cond) ∈ gT := gt_2 (List.mem_of_getElem? (i := 83) (by decide +kernel)) rfl
theorem wd_324 : (.instanceMethod yX11_month : Cond) ∈ gT := gt_2 (List.mem_of_getElem? (i := 84) (by decide +kernel)) rfl
theorem wd_325 : (.selects RX11 yX11_month yX11_month : Cond) ∈ gT := gt_2 (List.mem_of_getElem? (i := 85) (by decide +kernel)) rfl
theorem wd_326 : (.code yX11_month cX11_month 5 (some .int) : Cond) ∈ gT := gt_2 (List.mem_of_getElem? (i := 86) (rfl)) rfl
theorem wd_327 : (.methodLink RX11 119 yX11_isMonth : Cond) ∈ gT := gt_2 (List.mem_of_getElem? (i := 87) (by decide +kernel)) rfl
theorem wd_328 : (.static yX11_isMonth : Cond) ∈ gT := gt_2 (List.mem_of_getElem? (i := 88) (by decide +kernel)) rfl
theorem wd_329 : (.code yX11_isMonth cX11_isMonth 1 (some .boolean) : Cond) ∈ gT := gt_2 (List.mem_of_getElem? (i := 89) (rfl)) rfl
theorem wd_330 : (.methodLink RX11 126 yX3_isBare : Cond) ∈ gT := gt_2 (List.mem_of_getElem? (i := 90) (by decide +kernel)) rfl
theorem wd_331 : (.instanceMethod yX3_isBare : Cond) ∈ gT := gt_2 (List.mem_of_getElem? (i := 91) (by decide +kernel)) rfl
theorem wd_332 : (.selects RX3 yX3_isBare yX3_isBare : Cond) ∈ gT := gt_2 (List.mem_of_getElem? (i := 92) (by decide +kernel)) rfl
theorem wd_333 : (.code yX3_isBare cX3_isBare 1 (some .boolean) : Cond) ∈ gT := gt_2 (List.mem_of_getElem? (i := 93) (rfl)) rfl
theorem wd_334 : (.methodLink R_law 28 yX11_lift : Cond) ∈ gT := gt_2 (List.mem_of_getElem? (i := 94) (by decide +kernel)) rfl
theorem wd_335 : (.instanceMethod yX11_lift : Cond) ∈ gT := gt_2 (List.mem_of_getElem? (i := 95) (by decide +kernel)) rfl
theorem wd_336 : (.selects RX11 yX11_lift yX11_lift : Cond) ∈ gT := gt_2 (List.mem_of_getElem? (i := 96) (by decide +kernel)) rfl
theorem wd_337 : (.code yX11_lift cX11_lift 4 (some .int) : Cond) ∈ gT := gt_2 (List.mem_of_getElem? (i := 97) (rfl)) rfl
theorem wd_338 : (.methodLink R_law 32 yX11_height : Cond) ∈ gT := gt_2 (List.mem_of_getElem? (i := 98) (by decide +kernel)) rfl
theorem wd_339 : (.instanceMethod yX11_height : Cond) ∈ gT := gt_2 (List.mem_of_getElem? (i := 99) (by decide +kernel)) rfl
theorem wd_340 : (.selects RX11 yX11_height yX11_height : Cond) ∈ gT := gt_2 (List.mem_of_getElem? (i := 100) (by decide +kernel)) rfl
theorem wd_341 : (.code yX11_height cX11_height 3 (some .int) : Cond) ∈ gT := gt_2 (List.mem_of_getElem? (i := 101) (rfl)) rfl
theorem wd_342 : (.methodLink RX11 136 yX3_heightOf : Cond) ∈ gT := gt_2 (List.mem_of_getElem? (i := 102) (by decide +kernel)) rfl
theorem wd_343 : (.instanceMethod yX3_heightOf : Cond) ∈ gT := gt_2 (List.mem_of_getElem? (i := 103) (by decide +kernel)) rfl
theorem wd_344 : (.selects RX3 yX3_heightOf yX3_heightOf : Cond) ∈ gT := gt_2 (List.mem_of_getElem? (i := 104) (by decide +kernel)) rfl
theorem wd_345 : (.code yX3_heightOf cX3_heightOf 3 (some .int) : Cond) ∈ gT := gt_2 (List.mem_of_getElem? (i := 105) (rfl)) rfl
theorem wd_346 : (.methodLink RX3 85 yX3_heightAs : Cond) ∈ gT := gt_2 (List.mem_of_getElem? (i := 106) (by decide +kernel)) rfl
theorem wd_347 : (.instanceMethod yX3_heightAs : Cond) ∈ gT := gt_2 (List.mem_of_getElem? (i := 107) (by decide +kernel)) rfl
theorem wd_348 : (.selects RX3 yX3_heightAs yX3_heightAs : Cond) ∈ gT := gt_2 (List.mem_of_getElem? (i := 108) (by decide +kernel)) rfl
theorem wd_349 : (.code yX3_heightAs cX3_heightAs 4 (some .int) : Cond) ∈ gT := gt_2 (List.mem_of_getElem? (i := 109) (rfl)) rfl
theorem wd_350 : (.methodLink RX3 89 yX7_swell : Cond) ∈ gT := gt_2 (List.mem_of_getElem? (i := 110) (by decide +kernel)) rfl
theorem wd_351 : (.instanceMethod yX7_swell : Cond) ∈ gT := gt_2 (List.mem_of_getElem? (i := 111) (by decide +kernel)) rfl
theorem wd_352 : (.selects RX7 yX7_swell yX7_swell : Cond) ∈ gT := gt_2 (List.mem_of_getElem? (i := 112) (by decide +kernel)) rfl
theorem wd_353 : (.sameMethod "BreathSquare$Stone" "BreathSquare$Stone" "swell" "(II)I" : Cond) ∈ gT := gt_2 (List.mem_of_getElem? (i := 113) (by decide +kernel)) rfl
theorem wd_354 : (.selects RX0 yX7_swell yX0_swell : Cond) ∈ gT := gt_2 (List.mem_of_getElem? (i := 114) (by decide +kernel)) rfl
theorem wd_355 : (.instanceMethod yX0_swell : Cond) ∈ gT := gt_2 (List.mem_of_getElem? (i := 115) (by decide +kernel)) rfl
theorem wd_356 : (.code yX0_swell cX0_swell 3 (some .int) : Cond) ∈ gT := gt_2 (List.mem_of_getElem? (i := 116) (rfl)) rfl
theorem wd_357 : (.selects RX1 yX7_swell yX1_swell : Cond) ∈ gT := gt_2 (List.mem_of_getElem? (i := 117) (by decide +kernel)) rfl
theorem wd_358 : (.instanceMethod yX1_swell : Cond) ∈ gT := gt_2 (List.mem_of_getElem? (i := 118) (by decide +kernel)) rfl
theorem wd_359 : (.code yX1_swell cX1_swell 3 (some .int) : Cond) ∈ gT := gt_2 (List.mem_of_getElem? (i := 119) (rfl)) rfl
theorem wd_360 : (.methodLink RX1 7 yX0_swell : Cond) ∈ gT := gt_2 (List.mem_of_getElem? (i := 120) (by decide +kernel)) rfl
theorem wd_361 : (.code yX7_swell cX7_swell 3 (some .int) : Cond) ∈ gT := gt_2 (List.mem_of_getElem? (i := 121) (rfl)) rfl
theorem wd_362 : (.methodLink R_law 36 yX11_rises : Cond) ∈ gT := gt_2 (List.mem_of_getElem? (i := 122) (by decide +kernel)) rfl
theorem wd_363 : (.instanceMethod yX11_rises : Cond) ∈ gT := gt_2 (List.mem_of_getElem? (i := 123) (by decide +kernel)) rfl
theorem wd_364 : (.selects RX11 yX11_rises yX11_rises : Cond) ∈ gT := gt_2 (List.mem_of_getElem? (i := 124) (by decide +kernel)) rfl
theorem wd_365 : (.code yX11_rises cX11_rises 3 (some .int) : Cond) ∈ gT := gt_2 (List.mem_of_getElem? (i := 125) (rfl)) rfl
theorem wd_366 : (.methodLink RX11 140 yX3_highestMonth : Cond) ∈ gT := gt_2 (List.mem_of_getElem? (i := 126) (by decide +kernel)) rfl
theorem wd_367 : (.instanceMethod yX3_highestMonth : Cond) ∈ gT := gt_2 (List.mem_of_getElem? (i := 127) (by decide +kernel)) rfl
theorem wd_368 : (.selects RX3 yX3_highestMonth yX3_highestMonth : Cond) ∈ gT := gt_2 (List.mem_of_getElem? (i := 128) (by decide +kernel)) rfl
theorem wd_369 : (.code yX3_highestMonth cX3_highestMonth 4 (some .int) : Cond) ∈ gT := gt_2 (List.mem_of_getElem? (i := 129) (rfl)) rfl
theorem wd_370 : (.methodLink RX3 97 yX3_heightOf : Cond) ∈ gT := gt_2 (List.mem_of_getElem? (i := 130) (by decide +kernel)) rfl
theorem wd_371 : (.methodLink RX11 143 yX3_lowestMonth : Cond) ∈ gT := gt_2 (List.mem_of_getElem? (i := 131) (by decide +kernel)) rfl
theorem wd_372 : (.instanceMethod yX3_lowestMonth : Cond) ∈ gT := gt_2 (List.mem_of_getElem? (i := 132) (by decide +kernel)) rfl
theorem wd_373 : (.selects RX3 yX3_lowestMonth yX3_lowestMonth : Cond) ∈ gT := gt_2 (List.mem_of_getElem? (i := 133) (by decide +kernel)) rfl
theorem wd_374 : (.code yX3_lowestMonth cX3_lowestMonth 4 (some .int) : Cond) ∈ gT := gt_2 (List.mem_of_getElem? (i := 134) (rfl)) rfl
theorem wd_375 : (.methodLink R_law 40 yX11_way : Cond) ∈ gT := gt_2 (List.mem_of_getElem? (i := 135) (by decide +kernel)) rfl
theorem wd_376 : (.instanceMethod yX11_way : Cond) ∈ gT := gt_2 (List.mem_of_getElem? (i := 136) (by decide +kernel)) rfl
theorem wd_377 : (.selects RX11 yX11_way yX11_way : Cond) ∈ gT := gt_2 (List.mem_of_getElem? (i := 137) (by decide +kernel)) rfl
theorem wd_378 : (.code yX11_way cX11_way 6 (some .int) : Cond) ∈ gT := gt_2 (List.mem_of_getElem? (i := 138) (rfl)) rfl
theorem wd_379 : (.methodLink RX11 146 yX11_isApart : Cond) ∈ gT := gt_2 (List.mem_of_getElem? (i := 139) (by decide +kernel)) rfl
theorem wd_380 : (.static yX11_isApart : Cond) ∈ gT := gt_2 (List.mem_of_getElem? (i := 140) (by decide +kernel)) rfl
theorem wd_381 : (.code yX11_isApart cX11_isApart 1 (some .boolean) : Cond) ∈ gT := gt_2 (List.mem_of_getElem? (i := 141) (rfl)) rfl
theorem wd_382 : (.methodLink RX11 149 yX10_measure : Cond) ∈ gT := gt_2 (List.mem_of_getElem? (i := 142) (by decide +kernel)) rfl
theorem wd_383 : (.instanceMethod yX10_measure : Cond) ∈ gT := gt_2 (List.mem_of_getElem? (i := 143) (by decide +kernel)) rfl
theorem wd_384 : (.selects RX10 yX10_measure yX10_measure : Cond) ∈ gT := gt_2 (List.mem_of_getElem? (i := 144) (by decide +kernel)) rfl
theorem wd_385 : (.code yX10_measure cX10_measure 5 none : Cond) ∈ gT := gt_2 (List.mem_of_getElem? (i := 145) (rfl)) rfl
theorem wd_386 : (.methodLink RX10 31 yX3_stones : Cond) ∈ gT := gt_2 (List.mem_of_getElem? (i := 146) (by decide +kernel)) rfl
theorem wd_387 : (.methodLink RX10 37 yX3_writeHeights : Cond) ∈ gT := gt_2 (List.mem_of_getElem? (i := 147) (by decide +kernel)) rfl
theorem wd_388 : (.instanceMethod yX3_writeHeights : Cond) ∈ gT := gt_2 (List.mem_of_getElem? (i := 148) (by decide +kernel)) rfl
theorem wd_389 : (.selects RX3 yX3_writeHeights yX3_writeHeights : Cond) ∈ gT := gt_2 (List.mem_of_getElem? (i := 149) (by decide +kernel)) rfl
theorem wd_390 : (.code yX3_writeHeights cX3_writeHeights 4 none : Cond) ∈ gT := gt_2 (List.mem_of_getElem? (i := 150) (rfl)) rfl
theorem wd_391 : (.methodLink RX3 93 yX3_stones : Cond) ∈ gT := gt_2 (List.mem_of_getElem? (i := 151) (by decide +kernel)) rfl
theorem wd_392 : (.methodLink RX10 41 yX3_neighbour : Cond) ∈ gT := gt_2 (List.mem_of_getElem? (i := 152) (by decide +kernel)) rfl
theorem wd_393 : (.instanceMethod yX3_neighbour : Cond) ∈ gT := gt_2 (List.mem_of_getElem? (i := 153) (by decide +kernel)) rfl
theorem wd_394 : (.selects RX3 yX3_neighbour yX3_neighbour : Cond) ∈ gT := gt_2 (List.mem_of_getElem? (i := 154) (by decide +kernel)) rfl
theorem wd_395 : (.code yX3_neighbour cX3_neighbour 3 (some .int) : Cond) ∈ gT := gt_2 (List.mem_of_getElem? (i := 155) (rfl)) rfl
theorem wd_396 : (.methodLink RX10 45 yX10_apartTo : Cond) ∈ gT := gt_2 (List.mem_of_getElem? (i := 156) (by decide +kernel)) rfl
theorem wd_398 : (.instanceMethod yX10_apartTo : Cond) ∈ gT := gt_2 (List.mem_of_getElem? (i := 158) (by decide +kernel)) rfl
theorem wd_399 : (.code yX10_apartTo cX10_apartTo 3 (some .int) : Cond) ∈ gT := gt_2 (List.mem_of_getElem? (i := 159) (rfl)) rfl
theorem wd_400 : (.methodLink RX10 53 Lib.Math.abs.name : Cond) ∈ gT := gt_2 (List.mem_of_getElem? (i := 160) (by decide +kernel)) rfl
theorem wd_401 : (.static Lib.Math.abs.name : Cond) ∈ gT := gt_2 (List.mem_of_getElem? (i := 161) (by decide +kernel)) rfl
theorem wd_402 : (.code Lib.Math.abs.name Lib.Math.abs.code 1 (some .int) : Cond) ∈ gT := gt_2 (List.mem_of_getElem? (i := 162) (rfl)) rfl
theorem wd_403 : (.methodLink RX10 48 Lib.Math.max.name : Cond) ∈ gT := gt_2 (List.mem_of_getElem? (i := 163) (by decide +kernel)) rfl
theorem wd_404 : (.static Lib.Math.max.name : Cond) ∈ gT := gt_2 (List.mem_of_getElem? (i := 164) (by decide +kernel)) rfl
theorem wd_405 : (.code Lib.Math.max.name Lib.Math.max.code 2 (some .int) : Cond) ∈ gT := gt_2 (List.mem_of_getElem? (i := 165) (rfl)) rfl
theorem wd_406 : (.methodLink RX11 153 yX10_countStepsTo : Cond) ∈ gT := gt_2 (List.mem_of_getElem? (i := 166) (by decide +kernel)) rfl
theorem wd_407 : (.instanceMethod yX10_countStepsTo : Cond) ∈ gT := gt_2 (List.mem_of_getElem? (i := 167) (by decide +kernel)) rfl
theorem wd_408 : (.selects RX10 yX10_countStepsTo yX10_countStepsTo : Cond) ∈ gT := gt_2 (List.mem_of_getElem? (i := 168) (by decide +kernel)) rfl
theorem wd_409 : (.code yX10_countStepsTo cX10_countStepsTo 8 none : Cond) ∈ gT := gt_2 (List.mem_of_getElem? (i := 169) (rfl)) rfl
theorem wd_410 : (.methodLink RX10 57 yX10_stepAt : Cond) ∈ gT := gt_2 (List.mem_of_getElem? (i := 170) (by decide +kernel)) rfl
theorem wd_412 : (.instanceMethod yX10_stepAt : Cond) ∈ gT := gt_2 (List.mem_of_getElem? (i := 172) (by decide +kernel)) rfl
theorem wd_413 : (.code yX10_stepAt cX10_stepAt 4 (some .int) : Cond) ∈ gT := gt_2 (List.mem_of_getElem? (i := 173) (rfl)) rfl
theorem wd_414 : (.methodLink RX11 159 yX10_stoneBehind : Cond) ∈ gT := gt_2 (List.mem_of_getElem? (i := 174) (by decide +kernel)) rfl
theorem wd_415 : (.instanceMethod yX10_stoneBehind : Cond) ∈ gT := gt_2 (List.mem_of_getElem? (i := 175) (by decide +kernel)) rfl
theorem wd_416 : (.selects RX10 yX10_stoneBehind yX10_stoneBehind : Cond) ∈ gT := gt_2 (List.mem_of_getElem? (i := 176) (by decide +kernel)) rfl
theorem wd_417 : (.code yX10_stoneBehind cX10_stoneBehind 6 (some .int) : Cond) ∈ gT := gt_2 (List.mem_of_getElem? (i := 177) (rfl)) rfl
theorem wd_418 : (.methodLink RX10 61 yX10_nextOnWay : Cond) ∈ gT := gt_2 (List.mem_of_getElem? (i := 178) (by decide +kernel)) rfl
theorem wd_420 : (.instanceMethod yX10_nextOnWay : Cond) ∈ gT := gt_2 (List.mem_of_getElem? (i := 180) (by decide +kernel)) rfl
theorem wd_421 : (.code yX10_nextOnWay cX10_nextOnWay 5 (some .int) : Cond) ∈ gT := gt_2 (List.mem_of_getElem? (i := 181) (rfl)) rfl
theorem wd_422 : (.methodLink R_law 45 yX11_holds : Cond) ∈ gT := gt_2 (List.mem_of_getElem? (i := 182) (by decide +kernel)) rfl
theorem wd_423 : (.instanceMethod yX11_holds : Cond) ∈ gT := gt_2 (List.mem_of_getElem? (i := 183) (by decide +kernel)) rfl
theorem wd_424 : (.selects RX11 yX11_holds yX11_holds : Cond) ∈ gT := gt_2 (List.mem_of_getElem? (i := 184) (by decide +kernel)) rfl
theorem wd_425 : (.code yX11_holds cX11_holds 6 (some .int) : Cond) ∈ gT := gt_2 (List.mem_of_getElem? (i := 185) (rfl)) rfl
theorem wd_426 : (.methodLink R_law 49 yX11_leastStep : Cond) ∈ gT := gt_2 (List.mem_of_getElem? (i := 186) (by decide +kernel)) rfl
theorem wd_427 : (.instanceMethod yX11_leastStep : Cond) ∈ gT := gt_2 (List.mem_of_getElem? (i := 187) (by decide +kernel)) rfl
theorem wd_428 : (.selects RX11 yX11_leastStep yX11_leastStep : Cond) ∈ gT := gt_2 (List.mem_of_getElem? (i := 188) (by decide +kernel)) rfl
theorem wd_429 : (.code yX11_leastStep cX11_leastStep 4 (some .int) : Cond) ∈ gT := gt_2 (List.mem_of_getElem? (i := 189) (rfl)) rfl
theorem wd_430 : (.methodLink RX11 163 yX10_leastBetween : Cond) ∈ gT := gt_2 (List.mem_of_getElem? (i := 190) (by decide +kernel)) rfl
theorem wd_431 : (.instanceMethod yX10_leastBetween : Cond) ∈ gT := gt_2 (List.mem_of_getElem? (i := 191) (by decide +kernel)) rfl
theorem wd_432 : (.selects RX10 yX10_leastBetween yX10_leastBetween : Cond) ∈ gT := gt_2 (List.mem_of_getElem? (i := 192) (by decide +kernel)) rfl
theorem wd_433 : (.code yX10_leastBetween cX10_leastBetween 7 (some .int) : Cond) ∈ gT := gt_2 (List.mem_of_getElem? (i := 193) (rfl)) rfl
theorem wd_434 : (.constant RX10 66 (2147483647 : Int32) : Cond) ∈ gT := gt_2 (List.mem_of_getElem? (i := 194) (by decide +kernel)) rfl
theorem wd_435 : (.methodLink RX10 67 yX10_leastByNeighbours : Cond) ∈ gT := gt_2 (List.mem_of_getElem? (i := 195) (by decide +kernel)) rfl
theorem wd_437 : (.instanceMethod yX10_leastByNeighbours : Cond) ∈ gT := gt_2 (List.mem_of_getElem? (i := 197) (by decide +kernel)) rfl
theorem wd_438 : (.code yX10_leastByNeighbours cX10_leastByNeighbours 5 (some .int) : Cond) ∈ gT := gt_2 (List.mem_of_getElem? (i := 198) (rfl)) rfl
theorem wd_439 : (.methodLink RX10 70 Lib.Math.min.name : Cond) ∈ gT := gt_2 (List.mem_of_getElem? (i := 199) (by decide +kernel)) rfl
theorem wd_440 : (.static Lib.Math.min.name : Cond) ∈ gT := gt_2 (List.mem_of_getElem? (i := 200) (by decide +kernel)) rfl
theorem wd_441 : (.code Lib.Math.min.name Lib.Math.min.code 2 (some .int) : Cond) ∈ gT := gt_2 (List.mem_of_getElem? (i := 201) (rfl)) rfl
theorem wd_442 : (.methodLink R_law 53 yX11_wedges : Cond) ∈ gT := gt_2 (List.mem_of_getElem? (i := 202) (by decide +kernel)) rfl
theorem wd_443 : (.instanceMethod yX11_wedges : Cond) ∈ gT := gt_2 (List.mem_of_getElem? (i := 203) (by decide +kernel)) rfl
theorem wd_444 : (.selects RX11 yX11_wedges yX11_wedges : Cond) ∈ gT := gt_2 (List.mem_of_getElem? (i := 204) (by decide +kernel)) rfl
theorem wd_445 : (.code yX11_wedges cX11_wedges 3 (some .int) : Cond) ∈ gT := gt_2 (List.mem_of_getElem? (i := 205) (rfl)) rfl
theorem wd_446 : (.methodLink RX11 166 yX3_hasStall : Cond) ∈ gT := gt_2 (List.mem_of_getElem? (i := 206) (by decide +kernel)) rfl
theorem wd_447 : (.instanceMethod yX3_hasStall : Cond) ∈ gT := gt_2 (List.mem_of_getElem? (i := 207) (by decide +kernel)) rfl
theorem wd_448 : (.selects RX3 yX3_hasStall yX3_hasStall : Cond) ∈ gT := gt_2 (List.mem_of_getElem? (i := 208) (by decide +kernel)) rfl
theorem wd_449 : (.code yX3_hasStall cX3_hasStall 2 (some .boolean) : Cond) ∈ gT := gt_2 (List.mem_of_getElem? (i := 209) (rfl)) rfl
theorem wd_450 : (.methodLink RX3 76 yX3_has : Cond) ∈ gT := gt_2 (List.mem_of_getElem? (i := 210) (by decide +kernel)) rfl
theorem wd_451 : (.methodLink RX11 169 yX4_measure : Cond) ∈ gT := gt_2 (List.mem_of_getElem? (i := 211) (by decide +kernel)) rfl
theorem wd_452 : (.instanceMethod yX4_measure : Cond) ∈ gT := gt_2 (List.mem_of_getElem? (i := 212) (by decide +kernel)) rfl
theorem wd_453 : (.selects RX4 yX4_measure yX4_measure : Cond) ∈ gT := gt_2 (List.mem_of_getElem? (i := 213) (by decide +kernel)) rfl
theorem wd_454 : (.code yX4_measure cX4_measure 2 none : Cond) ∈ gT := gt_2 (List.mem_of_getElem? (i := 214) (rfl)) rfl
theorem wd_455 : (.methodLink RX4 22 yX3_writeHeights : Cond) ∈ gT := gt_2 (List.mem_of_getElem? (i := 215) (by decide +kernel)) rfl
theorem wd_456 : (.methodLink RX11 172 yX4_wedgesAt : Cond) ∈ gT := gt_2 (List.mem_of_getElem? (i := 216) (by decide +kernel)) rfl
theorem wd_457 : (.instanceMethod yX4_wedgesAt : Cond) ∈ gT := gt_2 (List.mem_of_getElem? (i := 217) (by decide +kernel)) rfl
theorem wd_458 : (.selects RX4 yX4_wedgesAt yX4_wedgesAt : Cond) ∈ gT := gt_2 (List.mem_of_getElem? (i := 218) (by decide +kernel)) rfl
theorem wd_459 : (.code yX4_wedgesAt cX4_wedgesAt 6 (some .int) : Cond) ∈ gT := gt_2 (List.mem_of_getElem? (i := 219) (rfl)) rfl
theorem wd_460 : (.methodLink RX4 32 Lib.Math.max.name : Cond) ∈ gT := gt_2 (List.mem_of_getElem? (i := 220) (by decide +kernel)) rfl
theorem wd_461 : (.methodLink R_law 57 yX11_best : Cond) ∈ gT := gt_2 (List.mem_of_getElem? (i := 221) (by decide +kernel)) rfl
theorem wd_462 : (.instanceMethod yX11_best : Cond) ∈ gT := gt_2 (List.mem_of_getElem? (i := 222) (by decide +kernel)) rfl
theorem wd_463 : (.selects RX11 yX11_best yX11_best : Cond) ∈ gT := gt_2 (List.mem_of_getElem? (i := 223) (by decide +kernel)) rfl
theorem wd_464 : (.code yX11_best cX11_best 5 (some .int) : Cond) ∈ gT := gt_2 (List.mem_of_getElem? (i := 224) (rfl)) rfl
theorem wd_465 : (.methodLink RX11 175 yX11_refusalOf : Cond) ∈ gT := gt_2 (List.mem_of_getElem? (i := 225) (by decide +kernel)) rfl
theorem wd_467 : (.instanceMethod yX11_refusalOf : Cond) ∈ gT := gt_2 (List.mem_of_getElem? (i := 227) (by decide +kernel)) rfl
theorem wd_468 : (.code yX11_refusalOf cX11_refusalOf 3 (some .int) : Cond) ∈ gT := gt_2 (List.mem_of_getElem? (i := 228) (rfl)) rfl
theorem wd_469 : (.methodLink RX11 179 yX4_bestPlace : Cond) ∈ gT := gt_2 (List.mem_of_getElem? (i := 229) (by decide +kernel)) rfl
theorem wd_470 : (.instanceMethod yX4_bestPlace : Cond) ∈ gT := gt_2 (List.mem_of_getElem? (i := 230) (by decide +kernel)) rfl
theorem wd_471 : (.selects RX4 yX4_bestPlace yX4_bestPlace : Cond) ∈ gT := gt_2 (List.mem_of_getElem? (i := 231) (by decide +kernel)) rfl
theorem wd_472 : (.code yX4_bestPlace cX4_bestPlace 3 (some .int) : Cond) ∈ gT := gt_2 (List.mem_of_getElem? (i := 232) (rfl)) rfl
theorem wd_473 : (.methodLink RX4 38 yX3_stones : Cond) ∈ gT := gt_2 (List.mem_of_getElem? (i := 233) (by decide +kernel)) rfl
theorem wd_474 : (.methodLink RX4 42 yX3_hasStall : Cond) ∈ gT := gt_2 (List.mem_of_getElem? (i := 234) (by decide +kernel)) rfl
theorem wd_475 : (.methodLink RX4 46 yX4_wedgesAt : Cond) ∈ gT := gt_2 (List.mem_of_getElem? (i := 235) (by decide +kernel)) rfl
theorem wd_476 : (.methodLink R_law 61 yX11_two : Cond) ∈ gT := gt_2 (List.mem_of_getElem? (i := 236) (by decide +kernel)) rfl
theorem wd_477 : (.instanceMethod yX11_two : Cond) ∈ gT := gt_2 (List.mem_of_getElem? (i := 237) (by decide +kernel)) rfl
theorem wd_478 : (.selects RX11 yX11_two yX11_two : Cond) ∈ gT := gt_2 (List.mem_of_getElem? (i := 238) (by decide +kernel)) rfl
theorem wd_479 : (.code yX11_two cX11_two 4 (some .int) : Cond) ∈ gT := gt_2 (List.mem_of_getElem? (i := 239) (rfl)) rfl
theorem wd_480 : (.methodLink RX11 182 yX4_findPair : Cond) ∈ gT := gt_3 (List.mem_of_getElem? (i := 0) (by decide +kernel)) rfl
theorem wd_481 : (.instanceMethod yX4_findPair : Cond) ∈ gT := gt_3 (List.mem_of_getElem? (i := 1) (by decide +kernel)) rfl
theorem wd_482 : (.selects RX4 yX4_findPair yX4_findPair : Cond) ∈ gT := gt_3 (List.mem_of_getElem? (i := 2) (by decide +kernel)) rfl
theorem wd_483 : (.code yX4_findPair cX4_findPair 3 none : Cond) ∈ gT := gt_3 (List.mem_of_getElem? (i := 3) (rfl)) rfl
theorem wd_484 : (.methodLink RX4 59 yX4_areClear : Cond) ∈ gT := gt_3 (List.mem_of_getElem? (i := 4) (by decide +kernel)) rfl
theorem wd_486 : (.instanceMethod yX4_areClear : Cond) ∈ gT := gt_3 (List.mem_of_getElem? (i := 6) (by decide +kernel)) rfl
theorem wd_487 : (.code yX4_areClear cX4_areClear 3 (some .boolean) : Cond) ∈ gT := gt_3 (List.mem_of_getElem? (i := 7) (rfl)) rfl
theorem wd_488 : (.methodLink RX4 70 Lib.Math.abs.name : Cond) ∈ gT := gt_3 (List.mem_of_getElem? (i := 8) (by decide +kernel)) rfl
theorem wd_489 : (.methodLink RX4 63 yX4_takePair : Cond) ∈ gT := gt_3 (List.mem_of_getElem? (i := 9) (by decide +kernel)) rfl
theorem wd_491 : (.instanceMethod yX4_takePair : Cond) ∈ gT := gt_3 (List.mem_of_getElem? (i := 11) (by decide +kernel)) rfl
theorem wd_492 : (.code yX4_takePair cX4_takePair 4 none : Cond) ∈ gT := gt_3 (List.mem_of_getElem? (i := 12) (rfl)) rfl
theorem wd_493 : (.methodLink R_law 65 yX11_oval : Cond) ∈ gT := gt_3 (List.mem_of_getElem? (i := 13) (by decide +kernel)) rfl
theorem wd_494 : (.instanceMethod yX11_oval : Cond) ∈ gT := gt_3 (List.mem_of_getElem? (i := 14) (by decide +kernel)) rfl
theorem wd_495 : (.selects RX11 yX11_oval yX11_oval : Cond) ∈ gT := gt_3 (List.mem_of_getElem? (i := 15) (by decide +kernel)) rfl
theorem wd_496 : (.code yX11_oval cX11_oval 5 (some .int) : Cond) ∈ gT := gt_3 (List.mem_of_getElem? (i := 16) (rfl)) rfl
theorem wd_497 : (.methodLink RX11 194 yX4_findOval : Cond) ∈ gT := gt_3 (List.mem_of_getElem? (i := 17) (by decide +kernel)) rfl
theorem wd_498 : (.instanceMethod yX4_findOval : Cond) ∈ gT := gt_3 (List.mem_of_getElem? (i := 18) (by decide +kernel)) rfl
theorem wd_499 : (.selects RX4 yX4_findOval yX4_findOval : Cond) ∈ gT := gt_3 (List.mem_of_getElem? (i := 19) (by decide +kernel)) rfl
theorem wd_500 : (.code yX4_findOval cX4_findOval 5 none : Cond) ∈ gT := gt_3 (List.mem_of_getElem? (i := 20) (rfl)) rfl
theorem wd_501 : (.methodLink RX4 76 yX4_sizeOf : Cond) ∈ gT := gt_3 (List.mem_of_getElem? (i := 21) (by decide +kernel)) rfl
theorem wd_503 : (.instanceMethod yX4_sizeOf : Cond) ∈ gT := gt_3 (List.mem_of_getElem? (i := 23) (by decide +kernel)) rfl
theorem wd_504 : (.code yX4_sizeOf cX4_sizeOf 4 (some .int) : Cond) ∈ gT := gt_3 (List.mem_of_getElem? (i := 24) (rfl)) rfl
theorem wd_505 : (.methodLink RX4 79 yX4_spread : Cond) ∈ gT := gt_3 (List.mem_of_getElem? (i := 25) (by decide +kernel)) rfl
theorem wd_507 : (.instanceMethod yX4_spread : Cond) ∈ gT := gt_3 (List.mem_of_getElem? (i := 27) (by decide +kernel)) rfl
theorem wd_508 : (.code yX4_spread cX4_spread 6 (some .int) : Cond) ∈ gT := gt_3 (List.mem_of_getElem? (i := 28) (rfl)) rfl
theorem wd_509 : (.methodLink RX4 82 Lib.Math.min.name : Cond) ∈ gT := gt_3 (List.mem_of_getElem? (i := 29) (by decide +kernel)) rfl
theorem wd_510 : (.methodLink R_law 69 yX11_depth : Cond) ∈ gT := gt_3 (List.mem_of_getElem? (i := 30) (by decide +kernel)) rfl
theorem wd_511 : (.instanceMethod yX11_depth : Cond) ∈ gT := gt_3 (List.mem_of_getElem? (i := 31) (by decide +kernel)) rfl
theorem wd_512 : (.selects RX11 yX11_depth yX11_depth : Cond) ∈ gT := gt_3 (List.mem_of_getElem? (i := 32) (by decide +kernel)) rfl
theorem wd_513 : (.code yX11_depth cX11_depth 3 (some .int) : Cond) ∈ gT := gt_3 (List.mem_of_getElem? (i := 33) (rfl)) rfl
theorem wd_514 : (.methodLink RX11 197 yX9_measure : Cond) ∈ gT := gt_3 (List.mem_of_getElem? (i := 34) (by decide +kernel)) rfl
theorem wd_515 : (.instanceMethod yX9_measure : Cond) ∈ gT := gt_3 (List.mem_of_getElem? (i := 35) (by decide +kernel)) rfl
theorem wd_516 : (.selects RX9 yX9_measure yX9_measure : Cond) ∈ gT := gt_3 (List.mem_of_getElem? (i := 36) (by decide +kernel)) rfl
theorem wd_517 : (.code yX9_measure cX9_measure 2 none : Cond) ∈ gT := gt_3 (List.mem_of_getElem? (i := 37) (rfl)) rfl
theorem wd_518 : (.methodLink RX9 22 yX3_writeHeights : Cond) ∈ gT := gt_3 (List.mem_of_getElem? (i := 38) (by decide +kernel)) rfl
theorem wd_519 : (.methodLink RX11 198 yX9_settle : Cond) ∈ gT := gt_3 (List.mem_of_getElem? (i := 39) (by decide +kernel)) rfl
theorem wd_520 : (.instanceMethod yX9_settle : Cond) ∈ gT := gt_3 (List.mem_of_getElem? (i := 40) (by decide +kernel)) rfl
theorem wd_521 : (.selects RX9 yX9_settle yX9_settle : Cond) ∈ gT := gt_3 (List.mem_of_getElem? (i := 41) (by decide +kernel)) rfl
theorem wd_522 : (.code yX9_settle cX9_settle 5 none : Cond) ∈ gT := gt_3 (List.mem_of_getElem? (i := 42) (rfl)) rfl
theorem wd_523 : (.methodLink RX9 28 yX3_stones : Cond) ∈ gT := gt_3 (List.mem_of_getElem? (i := 43) (by decide +kernel)) rfl
theorem wd_524 : (.methodLink RX9 32 yX3_isAtEdge : Cond) ∈ gT := gt_3 (List.mem_of_getElem? (i := 44) (by decide +kernel)) rfl
theorem wd_525 : (.instanceMethod yX3_isAtEdge : Cond) ∈ gT := gt_3 (List.mem_of_getElem? (i := 45) (by decide +kernel)) rfl
theorem wd_526 : (.selects RX3 yX3_isAtEdge yX3_isAtEdge : Cond) ∈ gT := gt_3 (List.mem_of_getElem? (i := 46) (by decide +kernel)) rfl
theorem wd_527 : (.code yX3_isAtEdge cX3_isAtEdge 2 (some .boolean) : Cond) ∈ gT := gt_3 (List.mem_of_getElem? (i := 47) (rfl)) rfl
theorem wd_528 : (.constant RX9 38 (2147483647 : Int32) : Cond) ∈ gT := gt_3 (List.mem_of_getElem? (i := 48) (by decide +kernel)) rfl
theorem wd_529 : (.methodLink RX9 39 yX9_lowestBeside : Cond) ∈ gT := gt_3 (List.mem_of_getElem? (i := 49) (by decide +kernel)) rfl
theorem wd_531 : (.instanceMethod yX9_lowestBeside : Cond) ∈ gT := gt_3 (List.mem_of_getElem? (i := 51) (by decide +kernel)) rfl
theorem wd_532 : (.code yX9_lowestBeside cX9_lowestBeside 5 (some .int) : Cond) ∈ gT := gt_3 (List.mem_of_getElem? (i := 52) (rfl)) rfl
theorem wd_533 : (.methodLink RX9 49 yX3_neighbour : Cond) ∈ gT := gt_3 (List.mem_of_getElem? (i := 53) (by decide +kernel)) rfl
theorem wd_534 : (.methodLink RX9 52 Lib.Math.min.name : Cond) ∈ gT := gt_3 (List.mem_of_getElem? (i := 54) (by decide +kernel)) rfl
theorem wd_535 : (.methodLink RX9 43 Lib.Math.max.name : Cond) ∈ gT := gt_3 (List.mem_of_getElem? (i := 55) (by decide +kernel)) rfl
theorem wd_536 : (.methodLink RX11 201 yX9_depthAt : Cond) ∈ gT := gt_3 (List.mem_of_getElem? (i := 56) (by decide +kernel)) rfl
theorem wd_537 : (.instanceMethod yX9_depthAt : Cond) ∈ gT := gt_3 (List.mem_of_getElem? (i := 57) (by decide +kernel)) rfl
theorem wd_538 : (.selects RX9 yX9_depthAt yX9_depthAt : Cond) ∈ gT := gt_3 (List.mem_of_getElem? (i := 58) (by decide +kernel)) rfl
theorem wd_539 : (.code yX9_depthAt cX9_depthAt 2 (some .int) : Cond) ∈ gT := gt_3 (List.mem_of_getElem? (i := 59) (rfl)) rfl
theorem wd_540 : (.methodLink R_law 73 yX11_pool : Cond) ∈ gT := gt_3 (List.mem_of_getElem? (i := 60) (by decide +kernel)) rfl
theorem wd_541 : (.instanceMethod yX11_pool : Cond) ∈ gT := gt_3 (List.mem_of_getElem? (i := 61) (by decide +kernel)) rfl
theorem wd_542 : (.selects RX11 yX11_pool yX11_pool : Cond) ∈ gT := gt_3 (List.mem_of_getElem? (i := 62) (by decide +kernel)) rfl
theorem wd_543 : (.code yX11_pool cX11_pool 3 (some .int) : Cond) ∈ gT := gt_3 (List.mem_of_getElem? (i := 63) (rfl)) rfl
theorem wd_544 : (.methodLink RX11 204 yX9_allDepths : Cond) ∈ gT := gt_3 (List.mem_of_getElem? (i := 64) (by decide +kernel)) rfl
theorem wd_545 : (.instanceMethod yX9_allDepths : Cond) ∈ gT := gt_3 (List.mem_of_getElem? (i := 65) (by decide +kernel)) rfl
theorem wd_546 : (.selects RX9 yX9_allDepths yX9_allDepths : Cond) ∈ gT := gt_3 (List.mem_of_getElem? (i := 66) (by decide +kernel)) rfl
theorem wd_547 : (.code yX9_allDepths cX9_allDepths 3 (some .int) : Cond) ∈ gT := gt_3 (List.mem_of_getElem? (i := 67) (rfl)) rfl
theorem wd_548 : (.methodLink RX9 55 yX9_settle : Cond) ∈ gT := gt_3 (List.mem_of_getElem? (i := 68) (by decide +kernel)) rfl
theorem wd_549 : (.methodLink RX9 58 yX9_depthAt : Cond) ∈ gT := gt_3 (List.mem_of_getElem? (i := 69) (by decide +kernel)) rfl
theorem wd_550 : (.methodLink R_law 78 yX11_drain : Cond) ∈ gT := gt_3 (List.mem_of_getElem? (i := 70) (by decide +kernel)) rfl
theorem wd_551 : (.instanceMethod yX11_drain : Cond) ∈ gT := gt_3 (List.mem_of_getElem? (i := 71) (by decide +kernel)) rfl
theorem wd_552 : (.selects RX11 yX11_drain yX11_drain : Cond) ∈ gT := gt_3 (List.mem_of_getElem? (i := 72) (by decide +kernel)) rfl
theorem wd_553 : (.code yX11_drain cX11_drain 6 (some .int) : Cond) ∈ gT := gt_3 (List.mem_of_getElem? (i := 73) (rfl)) rfl
theorem wd_554 : (.methodLink RX11 207 yX9_bestLifted : Cond) ∈ gT := gt_3 (List.mem_of_getElem? (i := 74) (by decide +kernel)) rfl
theorem wd_555 : (.instanceMethod yX9_bestLifted : Cond) ∈ gT := gt_3 (List.mem_of_getElem? (i := 75) (by decide +kernel)) rfl
theorem wd_556 : (.selects RX9 yX9_bestLifted yX9_bestLifted : Cond) ∈ gT := gt_3 (List.mem_of_getElem? (i := 76) (by decide +kernel)) rfl
theorem wd_557 : (.code yX9_bestLifted cX9_bestLifted 6 (some .int) : Cond) ∈ gT := gt_3 (List.mem_of_getElem? (i := 77) (rfl)) rfl
theorem wd_558 : (.methodLink RX9 64 yX9_poolIfLifted : Cond) ∈ gT := gt_3 (List.mem_of_getElem? (i := 78) (by decide +kernel)) rfl
theorem wd_559 : (.instanceMethod yX9_poolIfLifted : Cond) ∈ gT := gt_3 (List.mem_of_getElem? (i := 79) (by decide +kernel)) rfl
theorem wd_560 : (.selects RX9 yX9_poolIfLifted yX9_poolIfLifted : Cond) ∈ gT := gt_3 (List.mem_of_getElem? (i := 80) (by decide +kernel)) rfl
theorem wd_561 : (.code yX9_poolIfLifted cX9_poolIfLifted 4 (some .int) : Cond) ∈ gT := gt_3 (List.mem_of_getElem? (i := 81) (rfl)) rfl
theorem wd_562 : (.methodLink RX9 61 yX9_allDepths : Cond) ∈ gT := gt_3 (List.mem_of_getElem? (i := 82) (by decide +kernel)) rfl
theorem wd_563 : (.methodLink RX11 210 yX9_poolIfLifted : Cond) ∈ gT := gt_3 (List.mem_of_getElem? (i := 83) (by decide +kernel)) rfl
theorem wd_564 : (.methodLink R_law 82 yX11_statue : Cond) ∈ gT := gt_3 (List.mem_of_getElem? (i := 84) (by decide +kernel)) rfl
theorem wd_565 : (.instanceMethod yX11_statue : Cond) ∈ gT := gt_3 (List.mem_of_getElem? (i := 85) (by decide +kernel)) rfl
theorem wd_566 : (.selects RX11 yX11_statue yX11_statue : Cond) ∈ gT := gt_3 (List.mem_of_getElem? (i := 86) (by decide +kernel)) rfl
theorem wd_567 : (.code yX11_statue cX11_statue 5 (some .int) : Cond) ∈ gT := gt_3 (List.mem_of_getElem? (i := 87) (rfl)) rfl
theorem wd_568 : (.methodLink RX11 213 yX3_areBeside : Cond) ∈ gT := gt_3 (List.mem_of_getElem? (i := 88) (by decide +kernel)) rfl
theorem wd_569 : (.instanceMethod yX3_areBeside : Cond) ∈ gT := gt_3 (List.mem_of_getElem? (i := 89) (by decide +kernel)) rfl
theorem wd_570 : (.selects RX3 yX3_areBeside yX3_areBeside : Cond) ∈ gT := gt_3 (List.mem_of_getElem? (i := 90) (by decide +kernel)) rfl
theorem wd_571 : (.code yX3_areBeside cX3_areBeside 3 (some .boolean) : Cond) ∈ gT := gt_3 (List.mem_of_getElem? (i := 91) (rfl)) rfl
theorem wd_572 : (.methodLink RX3 80 Lib.Math.abs.name : Cond) ∈ gT := gt_3 (List.mem_of_getElem? (i := 92) (by decide +kernel)) rfl
theorem wd_573 : (.methodLink RX11 216 Lib.Math.abs.name : Cond) ∈ gT := gt_3 (List.mem_of_getElem? (i := 93) (by decide +kernel)) rfl
theorem wd_574 : (.methodLink R_law 86 yX11_nights : Cond) ∈ gT := gt_3 (List.mem_of_getElem? (i := 94) (by decide +kernel)) rfl
theorem wd_575 : (.instanceMethod yX11_nights : Cond) ∈ gT := gt_3 (List.mem_of_getElem? (i := 95) (by decide +kernel)) rfl
theorem wd_576 : (.selects RX11 yX11_nights yX11_nights : Cond) ∈ gT := gt_3 (List.mem_of_getElem? (i := 96) (by decide +kernel)) rfl
theorem wd_577 : (.code yX11_nights cX11_nights 5 (some .int) : Cond) ∈ gT := gt_3 (List.mem_of_getElem? (i := 97) (rfl)) rfl
theorem wd_578 : (.methodLink RX11 221 yX2_nightsTill : Cond) ∈ gT := gt_3 (List.mem_of_getElem? (i := 98) (by decide +kernel)) rfl
theorem wd_579 : (.instanceMethod yX2_nightsTill : Cond) ∈ gT := gt_3 (List.mem_of_getElem? (i := 99) (by decide +kernel)) rfl
theorem wd_580 : (.selects RX2 yX2_nightsTill yX2_nightsTill : Cond) ∈ gT := gt_3 (List.mem_of_getElem? (i := 100) (by decide +kernel)) rfl
theorem wd_581 : (.code yX2_nightsTill cX2_nightsTill 8 (some .int) : Cond) ∈ gT := gt_3 (List.mem_of_getElem? (i := 101) (rfl)) rfl
theorem wd_582 : (.methodLink RX2 19 yX3_stones : Cond) ∈ gT := gt_3 (List.mem_of_getElem? (i := 102) (by decide +kernel)) rfl
theorem wd_583 : (.methodLink RX2 25 Lib.Math.min.name : Cond) ∈ gT := gt_3 (List.mem_of_getElem? (i := 103) (by decide +kernel)) rfl
theorem wd_584 : (.methodLink RX2 31 yX3_heightOf : Cond) ∈ gT := gt_3 (List.mem_of_getElem? (i := 104) (by decide +kernel)) rfl
theorem wd_585 : (.methodLink RX2 34 yX2_putInOrder : Cond) ∈ gT := gt_3 (List.mem_of_getElem? (i := 105) (by decide +kernel)) rfl
theorem wd_587 : (.instanceMethod yX2_putInOrder : Cond) ∈ gT := gt_3 (List.mem_of_getElem? (i := 107) (by decide +kernel)) rfl
theorem wd_588 : (.code yX2_putInOrder cX2_putInOrder 5 none : Cond) ∈ gT := gt_3 (List.mem_of_getElem? (i := 108) (rfl)) rfl
theorem wd_589 : (.methodLink R_law 90 yX11_reading : Cond) ∈ gT := gt_3 (List.mem_of_getElem? (i := 109) (by decide +kernel)) rfl
theorem wd_590 : (.instanceMethod yX11_reading : Cond) ∈ gT := gt_3 (List.mem_of_getElem? (i := 110) (by decide +kernel)) rfl
theorem wd_591 : (.selects RX11 yX11_reading yX11_reading : Cond) ∈ gT := gt_3 (List.mem_of_getElem? (i := 111) (by decide +kernel)) rfl
theorem wd_592 : (.code yX11_reading cX11_reading 4 (some .int) : Cond) ∈ gT := gt_3 (List.mem_of_getElem? (i := 112) (rfl)) rfl
theorem wd_593 : (.methodLink RX11 224 yX5_isFull : Cond) ∈ gT := gt_3 (List.mem_of_getElem? (i := 113) (by decide +kernel)) rfl
theorem wd_594 : (.instanceMethod yX5_isFull : Cond) ∈ gT := gt_3 (List.mem_of_getElem? (i := 114) (by decide +kernel)) rfl
theorem wd_595 : (.selects RX5 yX5_isFull yX5_isFull : Cond) ∈ gT := gt_3 (List.mem_of_getElem? (i := 115) (by decide +kernel)) rfl
theorem wd_596 : (.code yX5_isFull cX5_isFull 1 (some .boolean) : Cond) ∈ gT := gt_3 (List.mem_of_getElem? (i := 116) (rfl)) rfl
theorem wd_597 : (.methodLink RX11 227 yX5_take : Cond) ∈ gT := gt_3 (List.mem_of_getElem? (i := 117) (by decide +kernel)) rfl
theorem wd_598 : (.instanceMethod yX5_take : Cond) ∈ gT := gt_3 (List.mem_of_getElem? (i := 118) (by decide +kernel)) rfl
theorem wd_599 : (.selects RX5 yX5_take yX5_take : Cond) ∈ gT := gt_3 (List.mem_of_getElem? (i := 119) (by decide +kernel)) rfl
theorem wd_600 : (.code yX5_take cX5_take 4 (some .int) : Cond) ∈ gT := gt_3 (List.mem_of_getElem? (i := 120) (rfl)) rfl
theorem wd_601 : (.methodLink R_law 94 yX11_back : Cond) ∈ gT := gt_3 (List.mem_of_getElem? (i := 121) (by decide +kernel)) rfl
theorem wd_602 : (.instanceMethod yX11_back : Cond) ∈ gT := gt_3 (List.mem_of_getElem? (i := 122) (by decide +kernel)) rfl
theorem wd_603 : (.selects RX11 yX11_back yX11_back : Cond) ∈ gT := gt_3 (List.mem_of_getElem? (i := 123) (by decide +kernel)) rfl
theorem wd_604 : (.code yX11_back cX11_back 2 (some .int) : Cond) ∈ gT := gt_3 (List.mem_of_getElem? (i := 124) (rfl)) rfl
theorem wd_605 : (.methodLink RX11 233 yX5_takeBack : Cond) ∈ gT := gt_3 (List.mem_of_getElem? (i := 125) (by decide +kernel)) rfl
theorem wd_606 : (.instanceMethod yX5_takeBack : Cond) ∈ gT := gt_3 (List.mem_of_getElem? (i := 126) (by decide +kernel)) rfl
theorem wd_607 : (.selects RX5 yX5_takeBack yX5_takeBack : Cond) ∈ gT := gt_3 (List.mem_of_getElem? (i := 127) (by decide +kernel)) rfl
theorem wd_608 : (.code yX5_takeBack cX5_takeBack 2 (some .int) : Cond) ∈ gT := gt_3 (List.mem_of_getElem? (i := 128) (rfl)) rfl
theorem wd_609 : (.methodLink R_law 98 yX11_kinds : Cond) ∈ gT := gt_3 (List.mem_of_getElem? (i := 129) (by decide +kernel)) rfl
theorem wd_610 : (.instanceMethod yX11_kinds : Cond) ∈ gT := gt_3 (List.mem_of_getElem? (i := 130) (by decide +kernel)) rfl
theorem wd_611 : (.selects RX11 yX11_kinds yX11_kinds : Cond) ∈ gT := gt_3 (List.mem_of_getElem? (i := 131) (by decide +kernel)) rfl
theorem wd_612 : (.code yX11_kinds cX11_kinds 2 (some .int) : Cond) ∈ gT := gt_3 (List.mem_of_getElem? (i := 132) (rfl)) rfl
theorem wd_613 : (.methodLink RX11 236 yX5_kindsOf : Cond) ∈ gT := gt_3 (List.mem_of_getElem? (i := 133) (by decide +kernel)) rfl
theorem wd_614 : (.instanceMethod yX5_kindsOf : Cond) ∈ gT := gt_3 (List.mem_of_getElem? (i := 134) (by decide +kernel)) rfl
theorem wd_615 : (.selects RX5 yX5_kindsOf yX5_kindsOf : Cond) ∈ gT := gt_3 (List.mem_of_getElem? (i := 135) (by decide +kernel)) rfl
theorem wd_616 : (.code yX5_kindsOf cX5_kindsOf 4 (some .int) : Cond) ∈ gT := gt_3 (List.mem_of_getElem? (i := 136) (rfl)) rfl
theorem wd_617 : (.methodLink RX5 29 yX5_areAllSo : Cond) ∈ gT := gt_3 (List.mem_of_getElem? (i := 137) (by decide +kernel)) rfl
theorem wd_619 : (.instanceMethod yX5_areAllSo : Cond) ∈ gT := gt_3 (List.mem_of_getElem? (i := 139) (by decide +kernel)) rfl
theorem wd_620 : (.code yX5_areAllSo cX5_areAllSo 4 (some .boolean) : Cond) ∈ gT := gt_3 (List.mem_of_getElem? (i := 140) (rfl)) rfl
theorem wd_621 : (.methodLink RX5 33 yX3_heightAs : Cond) ∈ gT := gt_3 (List.mem_of_getElem? (i := 141) (by decide +kernel)) rfl
theorem wd_622 : (.methodLink R_law 102 yX11_sheet : Cond) ∈ gT := gt_3 (List.mem_of_getElem? (i := 142) (by decide +kernel)) rfl
theorem wd_623 : (.instanceMethod yX11_sheet : Cond) ∈ gT := gt_3 (List.mem_of_getElem? (i := 143) (by decide +kernel)) rfl
theorem wd_624 : (.selects RX11 yX11_sheet yX11_sheet : Cond) ∈ gT := gt_3 (List.mem_of_getElem? (i := 144) (by decide +kernel)) rfl
theorem wd_625 : (.code yX11_sheet cX11_sheet 4 (some .int) : Cond) ∈ gT := gt_3 (List.mem_of_getElem? (i := 145) (rfl)) rfl
theorem wd_626 : (.methodLink RX11 239 yX6_renew : Cond) ∈ gT := gt_3 (List.mem_of_getElem? (i := 146) (by decide +kernel)) rfl
theorem wd_627 : (.instanceMethod yX6_renew : Cond) ∈ gT := gt_3 (List.mem_of_getElem? (i := 147) (by decide +kernel)) rfl
theorem wd_628 : (.selects RX6 yX6_renew yX6_renew : Cond) ∈ gT := gt_3 (List.mem_of_getElem? (i := 148) (by decide +kernel)) rfl
theorem wd_629 : (.code yX6_renew cX6_renew 4 none : Cond) ∈ gT := gt_3 (List.mem_of_getElem? (i := 149) (rfl)) rfl
theorem wd_630 : (.methodLink R_law 106 yX11_lose : Cond) ∈ gT := gt_3 (List.mem_of_getElem? (i := 150) (by decide +kernel)) rfl
theorem wd_631 : (.instanceMethod yX11_lose : Cond) ∈ gT := gt_3 (List.mem_of_getElem? (i := 151) (by decide +kernel)) rfl
theorem wd_632 : (.selects RX11 yX11_lose yX11_lose : Cond) ∈ gT := gt_3 (List.mem_of_getElem? (i := 152) (by decide +kernel)) rfl
theorem wd_633 : (.code yX11_lose cX11_lose 2 (some .int) : Cond) ∈ gT := gt_3 (List.mem_of_getElem? (i := 153) (rfl)) rfl
theorem wd_634 : (.methodLink RX11 242 yX6_clear : Cond) ∈ gT := gt_3 (List.mem_of_getElem? (i := 154) (by decide +kernel)) rfl
theorem wd_635 : (.instanceMethod yX6_clear : Cond) ∈ gT := gt_3 (List.mem_of_getElem? (i := 155) (by decide +kernel)) rfl
theorem wd_636 : (.selects RX6 yX6_clear yX6_clear : Cond) ∈ gT := gt_3 (List.mem_of_getElem? (i := 156) (by decide +kernel)) rfl
theorem wd_637 : (.code yX6_clear cX6_clear 2 (some .boolean) : Cond) ∈ gT := gt_3 (List.mem_of_getElem? (i := 157) (rfl)) rfl
theorem wd_638 : (.methodLink R_law 110 yX11_put : Cond) ∈ gT := gt_3 (List.mem_of_getElem? (i := 158) (by decide +kernel)) rfl
theorem wd_639 : (.instanceMethod yX11_put : Cond) ∈ gT := gt_3 (List.mem_of_getElem? (i := 159) (by decide +kernel)) rfl
theorem wd_640 : (.selects RX11 yX11_put yX11_put : Cond) ∈ gT := gt_3 (List.mem_of_getElem? (i := 160) (by decide +kernel)) rfl
theorem wd_641 : (.code yX11_put cX11_put 5 (some .int) : Cond) ∈ gT := gt_3 (List.mem_of_getElem? (i := 161) (rfl)) rfl
theorem wd_642 : (.methodLink RX11 245 yX6_isNothing : Cond) ∈ gT := gt_3 (List.mem_of_getElem? (i := 162) (by decide +kernel)) rfl
theorem wd_643 : (.methodLink RX11 248 yX6_hasCell : Cond) ∈ gT := gt_3 (List.mem_of_getElem? (i := 163) (by decide +kernel)) rfl
theorem wd_644 : (.instanceMethod yX6_hasCell : Cond) ∈ gT := gt_3 (List.mem_of_getElem? (i := 164) (by decide +kernel)) rfl
theorem wd_645 : (.selects RX6 yX6_hasCell yX6_hasCell : Cond) ∈ gT := gt_3 (List.mem_of_getElem? (i := 165) (by decide +kernel)) rfl
theorem wd_646 : (.code yX6_hasCell cX6_hasCell 2 (some .boolean) : Cond) ∈ gT := gt_3 (List.mem_of_getElem? (i := 166) (rfl)) rfl
theorem wd_647 : (.methodLink RX11 251 yX6_write : Cond) ∈ gT := gt_3 (List.mem_of_getElem? (i := 167) (by decide +kernel)) rfl
theorem wd_648 : (.instanceMethod yX6_write : Cond) ∈ gT := gt_3 (List.mem_of_getElem? (i := 168) (by decide +kernel)) rfl
theorem wd_649 : (.selects RX6 yX6_write yX6_write : Cond) ∈ gT := gt_3 (List.mem_of_getElem? (i := 169) (by decide +kernel)) rfl
theorem wd_650 : (.code yX6_write cX6_write 3 none : Cond) ∈ gT := gt_3 (List.mem_of_getElem? (i := 170) (rfl)) rfl
theorem wd_651 : (.methodLink R_law 114 yX11_cell : Cond) ∈ gT := gt_3 (List.mem_of_getElem? (i := 171) (by decide +kernel)) rfl
theorem wd_652 : (.instanceMethod yX11_cell : Cond) ∈ gT := gt_3 (List.mem_of_getElem? (i := 172) (by decide +kernel)) rfl
theorem wd_653 : (.selects RX11 yX11_cell yX11_cell : Cond) ∈ gT := gt_3 (List.mem_of_getElem? (i := 173) (by decide +kernel)) rfl
theorem wd_654 : (.code yX11_cell cX11_cell 6 (some .long) : Cond) ∈ gT := gt_3 (List.mem_of_getElem? (i := 174) (rfl)) rfl
theorem wd_655 : (.constantLong RX11 254 (-9223372036854775808 : Int64) : Cond) ∈ gT := gt_3 (List.mem_of_getElem? (i := 175) (by decide +kernel)) rfl
theorem wd_656 : (.methodLink R_law 119 yX11_copy : Cond) ∈ gT := gt_3 (List.mem_of_getElem? (i := 176) (by decide +kernel)) rfl
theorem wd_657 : (.instanceMethod yX11_copy : Cond) ∈ gT := gt_3 (List.mem_of_getElem? (i := 177) (by decide +kernel)) rfl
theorem wd_658 : (.selects RX11 yX11_copy yX11_copy : Cond) ∈ gT := gt_3 (List.mem_of_getElem? (i := 178) (by decide +kernel)) rfl
theorem wd_659 : (.code yX11_copy cX11_copy 8 (some .int) : Cond) ∈ gT := gt_3 (List.mem_of_getElem? (i := 179) (rfl)) rfl
theorem wd_660 : (.methodLink RX11 262 arraycopyName : Cond) ∈ gT := gt_3 (List.mem_of_getElem? (i := 180) (by decide +kernel)) rfl
theorem wd_661 : (.static arraycopyName : Cond) ∈ gT := gt_3 (List.mem_of_getElem? (i := 181) (by decide +kernel)) rfl
theorem wd_662 : (.native arraycopyName : Cond) ∈ gT := gt_3 (List.mem_of_getElem? (i := 182) (by decide +kernel)) rfl
theorem wd_663 : (.methodLink R_law 123 yX11_tell : Cond) ∈ gT := gt_3 (List.mem_of_getElem? (i := 183) (by decide +kernel)) rfl
theorem wd_664 : (.instanceMethod yX11_tell : Cond) ∈ gT := gt_3 (List.mem_of_getElem? (i := 184) (by decide +kernel)) rfl
theorem wd_665 : (.selects RX11 yX11_tell yX11_tell : Cond) ∈ gT := gt_3 (List.mem_of_getElem? (i := 185) (by decide +kernel)) rfl
theorem wd_666 : (.code yX11_tell cX11_tell 2 (some .int) : Cond) ∈ gT := gt_3 (List.mem_of_getElem? (i := 186) (rfl)) rfl
theorem wd_667 : (.methodLink RX11 268 yX3_bodyOf : Cond) ∈ gT := gt_3 (List.mem_of_getElem? (i := 187) (by decide +kernel)) rfl
theorem wd_668 : (.instanceMethod yX3_bodyOf : Cond) ∈ gT := gt_3 (List.mem_of_getElem? (i := 188) (by decide +kernel)) rfl
theorem wd_669 : (.selects RX3 yX3_bodyOf yX3_bodyOf : Cond) ∈ gT := gt_3 (List.mem_of_getElem? (i := 189) (by decide +kernel)) rfl
theorem wd_670 : (.code yX3_bodyOf cX3_bodyOf 2 (some (.object "BreathSquare$Stone")) : Cond) ∈ gT := gt_3 (List.mem_of_getElem? (i := 190) (rfl)) rfl
theorem wd_671 : (.methodLink RX11 272 yX7_telling : Cond) ∈ gT := gt_3 (List.mem_of_getElem? (i := 191) (by decide +kernel)) rfl
theorem wd_672 : (.instanceMethod yX7_telling : Cond) ∈ gT := gt_3 (List.mem_of_getElem? (i := 192) (by decide +kernel)) rfl
theorem wd_673 : (.selects RX7 yX7_telling yX7_telling : Cond) ∈ gT := gt_3 (List.mem_of_getElem? (i := 193) (by decide +kernel)) rfl
theorem wd_674 : (.sameMethod "BreathSquare$Stone" "BreathSquare$Stone" "telling" "(ILBreathSquare$Trace;)I" : Cond) ∈ gT := gt_3 (List.mem_of_getElem? (i := 194) (by decide +kernel)) rfl
theorem wd_675 : (.selects RX0 yX7_telling yX0_telling : Cond) ∈ gT := gt_3 (List.mem_of_getElem? (i := 195) (by decide +kernel)) rfl
theorem wd_676 : (.instanceMethod yX0_telling : Cond) ∈ gT := gt_3 (List.mem_of_getElem? (i := 196) (by decide +kernel)) rfl
theorem wd_677 : (.code yX0_telling cX0_telling 3 (some .int) : Cond) ∈ gT := gt_3 (List.mem_of_getElem? (i := 197) (rfl)) rfl
theorem wd_678 : (.methodLink RX0 7 yX8_leave : Cond) ∈ gT := gt_3 (List.mem_of_getElem? (i := 198) (by decide +kernel)) rfl
theorem wd_679 : (.instanceMethod yX8_leave : Cond) ∈ gT := gt_3 (List.mem_of_getElem? (i := 199) (by decide +kernel)) rfl
theorem wd_680 : (.selects RX8 yX8_leave yX8_leave : Cond) ∈ gT := gt_3 (List.mem_of_getElem? (i := 200) (by decide +kernel)) rfl
theorem wd_681 : (.code yX8_leave cX8_leave 2 none : Cond) ∈ gT := gt_3 (List.mem_of_getElem? (i := 201) (rfl)) rfl
theorem wd_682 : (.methodLink RX0 13 yX7_telling : Cond) ∈ gT := gt_3 (List.mem_of_getElem? (i := 202) (by decide +kernel)) rfl
theorem wd_683 : (.selects RX1 yX7_telling yX1_telling : Cond) ∈ gT := gt_3 (List.mem_of_getElem? (i := 203) (by decide +kernel)) rfl
theorem wd_684 : (.instanceMethod yX1_telling : Cond) ∈ gT := gt_3 (List.mem_of_getElem? (i := 204) (by decide +kernel)) rfl
theorem wd_685 : (.code yX1_telling cX1_telling 4 (some .int) : Cond) ∈ gT := gt_3 (List.mem_of_getElem? (i := 205) (rfl)) rfl
theorem wd_686 : (.methodLink RX1 11 yX8_leave : Cond) ∈ gT := gt_3 (List.mem_of_getElem? (i := 206) (by decide +kernel)) rfl
theorem wd_687 : (.methodLink RX1 17 yX0_telling : Cond) ∈ gT := gt_3 (List.mem_of_getElem? (i := 207) (by decide +kernel)) rfl
theorem wd_688 : (.methodLink RX1 21 ⟨"BreathSquare$Frosty", "stoneTelling", "(ILBreathSquare$Trace;)I"⟩ : Cond) ∈ gT := gt_3 (List.mem_of_getElem? (i := 208) (by decide +kernel)) rfl
theorem wd_689 : (.sameMethod "BreathSquare$Frosty" "BreathSquare$Stone" "stoneTelling" "(ILBreathSquare$Trace;)I" : Cond) ∈ gT := gt_3 (List.mem_of_getElem? (i := 209) (by decide +kernel)) rfl
theorem wn_690 : (.declares yX7_stoneTelling : Cond) ∈ lw_tbl := lt_3 (List.mem_of_getElem? (i := 210) (by decide +kernel))
theorem wd_691 : (.selects RX1 ⟨"BreathSquare$Frosty", "stoneTelling", "(ILBreathSquare$Trace;)I"⟩ yX7_stoneTelling : Cond) ∈ gT := gt_3 (List.mem_of_getElem? (i := 211) (by decide +kernel)) rfl
theorem wd_692 : (.instanceMethod yX7_stoneTelling : Cond) ∈ gT := gt_3 (List.mem_of_getElem? (i := 212) (by decide +kernel)) rfl
theorem wd_693 : (.code yX7_stoneTelling cX7_stoneTelling 3 (some .int) : Cond) ∈ gT := gt_3 (List.mem_of_getElem? (i := 213) (rfl)) rfl
theorem wd_694 : (.methodLink RX7 13 yX8_leave : Cond) ∈ gT := gt_3 (List.mem_of_getElem? (i := 214) (by decide +kernel)) rfl
theorem wd_695 : (.code yX7_telling cX7_telling 3 (some .int) : Cond) ∈ gT := gt_3 (List.mem_of_getElem? (i := 215) (rfl)) rfl
theorem wd_696 : (.methodLink RX7 7 yX7_stoneTelling : Cond) ∈ gT := gt_3 (List.mem_of_getElem? (i := 216) (by decide +kernel)) rfl
theorem wd_697 : (.methodLink R_law 127 yX11_tread : Cond) ∈ gT := gt_3 (List.mem_of_getElem? (i := 217) (by decide +kernel)) rfl
theorem wd_698 : (.instanceMethod yX11_tread : Cond) ∈ gT := gt_3 (List.mem_of_getElem? (i := 218) (by decide +kernel)) rfl
theorem wd_699 : (.selects RX11 yX11_tread yX11_tread : Cond) ∈ gT := gt_3 (List.mem_of_getElem? (i := 219) (by decide +kernel)) rfl
theorem wd_700 : (.code yX11_tread cX11_tread 2 (some .int) : Cond) ∈ gT := gt_3 (List.mem_of_getElem? (i := 220) (rfl)) rfl
theorem wd_701 : (.methodLink RX11 278 yX7_trodden : Cond) ∈ gT := gt_3 (List.mem_of_getElem? (i := 221) (by decide +kernel)) rfl
theorem wd_702 : (.instanceMethod yX7_trodden : Cond) ∈ gT := gt_3 (List.mem_of_getElem? (i := 222) (by decide +kernel)) rfl
theorem wd_703 : (.selects RX7 yX7_trodden yX7_trodden : Cond) ∈ gT := gt_3 (List.mem_of_getElem? (i := 223) (by decide +kernel)) rfl
theorem wd_704 : (.sameMethod "BreathSquare$Stone" "BreathSquare$Stone" "trodden" "(ILBreathSquare$Trace;)I" : Cond) ∈ gT := gt_3 (List.mem_of_getElem? (i := 224) (by decide +kernel)) rfl
theorem wd_705 : (.selects RX0 yX7_trodden yX7_trodden : Cond) ∈ gT := gt_3 (List.mem_of_getElem? (i := 225) (by decide +kernel)) rfl
theorem wd_706 : (.selects RX1 yX7_trodden yX1_trodden : Cond) ∈ gT := gt_3 (List.mem_of_getElem? (i := 226) (by decide +kernel)) rfl
theorem wd_707 : (.instanceMethod yX1_trodden : Cond) ∈ gT := gt_3 (List.mem_of_getElem? (i := 227) (by decide +kernel)) rfl
theorem wd_708 : (.code yX1_trodden cX1_trodden 3 (some .int) : Cond) ∈ gT := gt_3 (List.mem_of_getElem? (i := 228) (rfl)) rfl
theorem wd_709 : (.code yX7_trodden cX7_trodden 3 (some .int) : Cond) ∈ gT := gt_3 (List.mem_of_getElem? (i := 229) (rfl)) rfl
theorem wd_710 : (.methodLink R_law 131 yX11_as : Cond) ∈ gT := gt_3 (List.mem_of_getElem? (i := 230) (by decide +kernel)) rfl
theorem wd_711 : (.instanceMethod yX11_as : Cond) ∈ gT := gt_3 (List.mem_of_getElem? (i := 231) (by decide +kernel)) rfl
theorem wd_712 : (.selects RX11 yX11_as yX11_as : Cond) ∈ gT := gt_3 (List.mem_of_getElem? (i := 232) (by decide +kernel)) rfl
theorem wd_713 : (.code yX11_as cX11_as 3 (some .int) : Cond) ∈ gT := gt_3 (List.mem_of_getElem? (i := 233) (rfl)) rfl
theorem wd_714 : (.methodLink R_law 135 yX11_trace : Cond) ∈ gT := gt_3 (List.mem_of_getElem? (i := 234) (by decide +kernel)) rfl
theorem wd_715 : (.instanceMethod yX11_trace : Cond) ∈ gT := gt_3 (List.mem_of_getElem? (i := 235) (by decide +kernel)) rfl
theorem wd_716 : (.selects RX11 yX11_trace yX11_trace : Cond) ∈ gT := gt_3 (List.mem_of_getElem? (i := 236) (by decide +kernel)) rfl
theorem wd_717 : (.code yX11_trace cX11_trace 1 (some .int) : Cond) ∈ gT := gt_3 (List.mem_of_getElem? (i := 237) (rfl)) rfl
theorem wd_718 : (.methodLink R_law 140 yX11_fault : Cond) ∈ gT := gt_3 (List.mem_of_getElem? (i := 238) (by decide +kernel)) rfl
theorem wd_719 : (.instanceMethod yX11_fault : Cond) ∈ gT := gt_3 (List.mem_of_getElem? (i := 239) (by decide +kernel)) rfl
theorem wd_720 : (.selects RX11 yX11_fault yX11_fault : Cond) ∈ gT := gt_4 (List.mem_of_getElem? (i := 0) (by decide +kernel)) rfl
theorem wd_721 : (.code yX11_fault cX11_fault 1 (some .int) : Cond) ∈ gT := gt_4 (List.mem_of_getElem? (i := 1) (rfl)) rfl
theorem wd_722 : (.methodLink R_law 144 yX11_many : Cond) ∈ gT := gt_4 (List.mem_of_getElem? (i := 2) (by decide +kernel)) rfl
theorem wd_723 : (.instanceMethod yX11_many : Cond) ∈ gT := gt_4 (List.mem_of_getElem? (i := 3) (by decide +kernel)) rfl
theorem wd_724 : (.selects RX11 yX11_many yX11_many : Cond) ∈ gT := gt_4 (List.mem_of_getElem? (i := 4) (by decide +kernel)) rfl
theorem wd_725 : (.code yX11_many cX11_many 2 (some .int) : Cond) ∈ gT := gt_4 (List.mem_of_getElem? (i := 5) (rfl)) rfl
theorem wd_726 : (.classLink R_law 10 RX12 : Cond) ∈ gT := gt_4 (List.mem_of_getElem? (i := 6) (by decide +kernel)) rfl
theorem wd_727 : (.instantiable RX12 25 : Cond) ∈ gT := gt_4 (List.mem_of_getElem? (i := 7) (by decide +kernel)) rfl
theorem wd_728 : (.methodLink R_law 12 yX12_init : Cond) ∈ gT := gt_4 (List.mem_of_getElem? (i := 8) (by decide +kernel)) rfl
theorem wd_729 : (.instanceMethod yX12_init : Cond) ∈ gT := gt_4 (List.mem_of_getElem? (i := 9) (by decide +kernel)) rfl
theorem wd_730 : (.code yX12_init cX12_init 1 none : Cond) ∈ gT := gt_4 (List.mem_of_getElem? (i := 10) (rfl)) rfl
theorem wd_731 : (.methodLink RX12 1 Lib.objectInit : Cond) ∈ gT := gt_4 (List.mem_of_getElem? (i := 11) (by decide +kernel)) rfl
theorem wd_732 : (.fieldLink RX12 62 "BreathSquareModel" "fault" "I" : Cond) ∈ gT := gt_4 (List.mem_of_getElem? (i := 12) (by decide +kernel)) rfl
theorem wd_733 : (.fieldLink RX12 186 "BreathSquareModel" "trace" "I" : Cond) ∈ gT := gt_4 (List.mem_of_getElem? (i := 13) (by decide +kernel)) rfl
theorem wd_734 : (.fieldLink RX12 9 "BreathSquareModel" "sorts" "[I" : Cond) ∈ gT := gt_4 (List.mem_of_getElem? (i := 14) (by decide +kernel)) rfl
theorem wd_735 : (.fieldLink RX12 13 "BreathSquareModel" "sheetLong" "[I" : Cond) ∈ gT := gt_4 (List.mem_of_getElem? (i := 15) (by decide +kernel)) rfl
theorem wd_736 : (.fieldLink RX12 16 "BreathSquareModel" "cells" "[I" : Cond) ∈ gT := gt_4 (List.mem_of_getElem? (i := 16) (by decide +kernel)) rfl
theorem wd_737 : (.fieldLink RX12 72 "BreathSquareModel" "high" "I" : Cond) ∈ gT := gt_4 (List.mem_of_getElem? (i := 17) (by decide +kernel)) rfl
theorem wd_738 : (.fieldLink RX12 75 "BreathSquareModel" "wide" "I" : Cond) ∈ gT := gt_4 (List.mem_of_getElem? (i := 18) (by decide +kernel)) rfl
theorem wd_739 : (.fieldLink RX12 19 "BreathSquareModel" "kind" "[I" : Cond) ∈ gT := gt_4 (List.mem_of_getElem? (i := 19) (by decide +kernel)) rfl
theorem wd_740 : (.fieldLink RX12 22 "BreathSquareModel" "ground" "[I" : Cond) ∈ gT := gt_4 (List.mem_of_getElem? (i := 20) (by decide +kernel)) rfl
theorem wd_741 : (.fieldLink RX12 25 "BreathSquareModel" "lifted" "[I" : Cond) ∈ gT := gt_4 (List.mem_of_getElem? (i := 21) (by decide +kernel)) rfl
theorem wd_742 : (.fieldLink RX12 28 "BreathSquareModel" "wet" "[I" : Cond) ∈ gT := gt_4 (List.mem_of_getElem? (i := 22) (by decide +kernel)) rfl
theorem wd_743 : (.fieldLink RX12 31 "BreathSquareModel" "frost" "[I" : Cond) ∈ gT := gt_4 (List.mem_of_getElem? (i := 23) (by decide +kernel)) rfl
theorem wd_744 : (.fieldLink RX12 82 "BreathSquareModel" "at" "I" : Cond) ∈ gT := gt_4 (List.mem_of_getElem? (i := 24) (by decide +kernel)) rfl
theorem wd_745 : (.fieldLink RX12 103 "BreathSquareModel" "readHigh" "I" : Cond) ∈ gT := gt_4 (List.mem_of_getElem? (i := 25) (by decide +kernel)) rfl
theorem wd_746 : (.fieldLink RX12 106 "BreathSquareModel" "readWide" "I" : Cond) ∈ gT := gt_4 (List.mem_of_getElem? (i := 26) (by decide +kernel)) rfl
theorem wd_747 : (.fieldLink RX12 34 "BreathSquareModel" "readKind" "[I" : Cond) ∈ gT := gt_4 (List.mem_of_getElem? (i := 27) (by decide +kernel)) rfl
theorem wd_748 : (.fieldLink RX12 37 "BreathSquareModel" "readGround" "[I" : Cond) ∈ gT := gt_4 (List.mem_of_getElem? (i := 28) (by decide +kernel)) rfl
theorem wd_749 : (.fieldLink RX12 40 "BreathSquareModel" "far" "[I" : Cond) ∈ gT := gt_4 (List.mem_of_getElem? (i := 29) (by decide +kernel)) rfl
theorem wd_750 : (.fieldLink RX12 43 "BreathSquareModel" "worst" "[I" : Cond) ∈ gT := gt_4 (List.mem_of_getElem? (i := 30) (by decide +kernel)) rfl
theorem wd_751 : (.fieldLink RX12 46 "BreathSquareModel" "now" "[I" : Cond) ∈ gT := gt_4 (List.mem_of_getElem? (i := 31) (by decide +kernel)) rfl
theorem wd_752 : (.fieldLink RX12 49 "BreathSquareModel" "isDone" "[Z" : Cond) ∈ gT := gt_4 (List.mem_of_getElem? (i := 32) (by decide +kernel)) rfl
theorem wd_753 : (.fieldLink RX12 109 "BreathSquareModel" "readings" "I" : Cond) ∈ gT := gt_4 (List.mem_of_getElem? (i := 33) (by decide +kernel)) rfl
theorem wd_754 : (.fieldLink RX12 53 "BreathSquareModel" "readStoneIs" "[I" : Cond) ∈ gT := gt_4 (List.mem_of_getElem? (i := 34) (by decide +kernel)) rfl
theorem wd_755 : (.fieldLink RX12 56 "BreathSquareModel" "readMonth" "[I" : Cond) ∈ gT := gt_4 (List.mem_of_getElem? (i := 35) (by decide +kernel)) rfl
theorem wd_756 : (.fieldLink RX12 59 "BreathSquareModel" "readHeight" "[I" : Cond) ∈ gT := gt_4 (List.mem_of_getElem? (i := 36) (by decide +kernel)) rfl
theorem wd_807 : (.superclass RX12 "java/lang/Object" : Cond) ∈ gT := gt_4 (List.mem_of_getElem? (i := 87) (by decide +kernel)) rfl
theorem wd_808 : (.arrayClass .boolean : Cond) ∈ gT := gt_4 (List.mem_of_getElem? (i := 88) (by decide +kernel)) rfl
theorem wd_809 : (.methodLink R_law 17 yX12_square : Cond) ∈ gT := gt_4 (List.mem_of_getElem? (i := 89) (by decide +kernel)) rfl
theorem wd_810 : (.instanceMethod yX12_square : Cond) ∈ gT := gt_4 (List.mem_of_getElem? (i := 90) (by decide +kernel)) rfl
theorem wd_811 : (.selects RX12 yX12_square yX12_square : Cond) ∈ gT := gt_4 (List.mem_of_getElem? (i := 91) (by decide +kernel)) rfl
theorem wd_812 : (.code yX12_square cX12_square 8 (some .int) : Cond) ∈ gT := gt_4 (List.mem_of_getElem? (i := 92) (rfl)) rfl
theorem wd_813 : (.methodLink RX12 85 yX12_isSheet : Cond) ∈ gT := gt_4 (List.mem_of_getElem? (i := 93) (by decide +kernel)) rfl
theorem wd_814 : (.static yX12_isSheet : Cond) ∈ gT := gt_4 (List.mem_of_getElem? (i := 94) (by decide +kernel)) rfl
theorem wd_815 : (.code yX12_isSheet cX12_isSheet 1 (some .boolean) : Cond) ∈ gT := gt_4 (List.mem_of_getElem? (i := 95) (rfl)) rfl
theorem wd_816 : (.methodLink RX12 68 yX12_within : Cond) ∈ gT := gt_4 (List.mem_of_getElem? (i := 96) (by decide +kernel)) rfl
theorem wd_817 : (.static yX12_within : Cond) ∈ gT := gt_4 (List.mem_of_getElem? (i := 97) (by decide +kernel)) rfl
theorem wd_818 : (.code yX12_within cX12_within 3 (some .boolean) : Cond) ∈ gT := gt_4 (List.mem_of_getElem? (i := 98) (rfl)) rfl
theorem wd_819 : (.methodLink RX12 89 yX12_isSort : Cond) ∈ gT := gt_4 (List.mem_of_getElem? (i := 99) (by decide +kernel)) rfl
theorem wd_820 : (.static yX12_isSort : Cond) ∈ gT := gt_4 (List.mem_of_getElem? (i := 100) (by decide +kernel)) rfl
theorem wd_821 : (.code yX12_isSort cX12_isSort 1 (some .boolean) : Cond) ∈ gT := gt_4 (List.mem_of_getElem? (i := 101) (rfl)) rfl
theorem wd_822 : (.methodLink RX12 92 yX12_against : Cond) ∈ gT := gt_4 (List.mem_of_getElem? (i := 102) (by decide +kernel)) rfl
theorem wd_824 : (.instanceMethod yX12_against : Cond) ∈ gT := gt_4 (List.mem_of_getElem? (i := 104) (by decide +kernel)) rfl
theorem wd_825 : (.code yX12_against cX12_against 5 (some .int) : Cond) ∈ gT := gt_4 (List.mem_of_getElem? (i := 105) (rfl)) rfl
theorem wd_826 : (.methodLink RX12 96 yX12_fails : Cond) ∈ gT := gt_4 (List.mem_of_getElem? (i := 106) (by decide +kernel)) rfl
theorem wd_828 : (.instanceMethod yX12_fails : Cond) ∈ gT := gt_4 (List.mem_of_getElem? (i := 108) (by decide +kernel)) rfl
theorem wd_829 : (.code yX12_fails cX12_fails 2 (some .int) : Cond) ∈ gT := gt_4 (List.mem_of_getElem? (i := 109) (rfl)) rfl
theorem wd_830 : (.methodLink RX12 100 yX12_readSquare : Cond) ∈ gT := gt_4 (List.mem_of_getElem? (i := 110) (by decide +kernel)) rfl
theorem wd_832 : (.instanceMethod yX12_readSquare : Cond) ∈ gT := gt_4 (List.mem_of_getElem? (i := 112) (by decide +kernel)) rfl
theorem wd_833 : (.code yX12_readSquare cX12_readSquare 4 (some .boolean) : Cond) ∈ gT := gt_4 (List.mem_of_getElem? (i := 113) (rfl)) rfl
theorem wd_834 : (.methodLink RX12 112 yX12_digit : Cond) ∈ gT := gt_4 (List.mem_of_getElem? (i := 114) (by decide +kernel)) rfl
theorem wd_836 : (.instanceMethod yX12_digit : Cond) ∈ gT := gt_4 (List.mem_of_getElem? (i := 116) (by decide +kernel)) rfl
theorem wd_837 : (.code yX12_digit cX12_digit 4 (some .int) : Cond) ∈ gT := gt_4 (List.mem_of_getElem? (i := 117) (rfl)) rfl
theorem wd_838 : (.methodLink RX12 116 yX12_readStone : Cond) ∈ gT := gt_4 (List.mem_of_getElem? (i := 118) (by decide +kernel)) rfl
theorem wd_840 : (.instanceMethod yX12_readStone : Cond) ∈ gT := gt_4 (List.mem_of_getElem? (i := 120) (by decide +kernel)) rfl
theorem wd_841 : (.code yX12_readStone cX12_readStone 4 (some .boolean) : Cond) ∈ gT := gt_4 (List.mem_of_getElem? (i := 121) (rfl)) rfl
theorem wd_842 : (.methodLink RX12 78 yX12_all : Cond) ∈ gT := gt_4 (List.mem_of_getElem? (i := 122) (by decide +kernel)) rfl
theorem wd_844 : (.instanceMethod yX12_all : Cond) ∈ gT := gt_4 (List.mem_of_getElem? (i := 124) (by decide +kernel)) rfl
theorem wd_845 : (.code yX12_all cX12_all 1 (some .int) : Cond) ∈ gT := gt_4 (List.mem_of_getElem? (i := 125) (rfl)) rfl
theorem wd_846 : (.methodLink R_law 22 yX12_ofStone : Cond) ∈ gT := gt_4 (List.mem_of_getElem? (i := 126) (by decide +kernel)) rfl
theorem wd_847 : (.instanceMethod yX12_ofStone : Cond) ∈ gT := gt_4 (List.mem_of_getElem? (i := 127) (by decide +kernel)) rfl
theorem wd_848 : (.selects RX12 yX12_ofStone yX12_ofStone : Cond) ∈ gT := gt_4 (List.mem_of_getElem? (i := 128) (by decide +kernel)) rfl
theorem wd_849 : (.code yX12_ofStone cX12_ofStone 3 (some .int) : Cond) ∈ gT := gt_4 (List.mem_of_getElem? (i := 129) (rfl)) rfl
theorem wd_850 : (.methodLink RX12 120 yX12_isStone : Cond) ∈ gT := gt_4 (List.mem_of_getElem? (i := 130) (by decide +kernel)) rfl
theorem wd_852 : (.instanceMethod yX12_isStone : Cond) ∈ gT := gt_4 (List.mem_of_getElem? (i := 132) (by decide +kernel)) rfl
theorem wd_853 : (.code yX12_isStone cX12_isStone 2 (some .boolean) : Cond) ∈ gT := gt_4 (List.mem_of_getElem? (i := 133) (rfl)) rfl
theorem wd_854 : (.methodLink R_law 27 yX12_month : Cond) ∈ gT := gt_4 (List.mem_of_getElem? (i := 134) (by decide +kernel)) rfl
theorem wd_855 : (.instanceMethod yX12_month : Cond) ∈ gT := gt_4 (List.mem_of_getElem? (i := 135) (by decide +kernel)) rfl
theorem wd_856 : (.selects RX12 yX12_month yX12_month : Cond) ∈ gT := gt_4 (List.mem_of_getElem? (i := 136) (by decide +kernel)) rfl
theorem wd_857 : (.code yX12_month cX12_month 5 (some .int) : Cond) ∈ gT := gt_4 (List.mem_of_getElem? (i := 137) (rfl)) rfl
theorem wd_858 : (.methodLink RX12 123 yX12_isMonth : Cond) ∈ gT := gt_4 (List.mem_of_getElem? (i := 138) (by decide +kernel)) rfl
theorem wd_859 : (.static yX12_isMonth : Cond) ∈ gT := gt_4 (List.mem_of_getElem? (i := 139) (by decide +kernel)) rfl
theorem wd_860 : (.code yX12_isMonth cX12_isMonth 1 (some .boolean) : Cond) ∈ gT := gt_4 (List.mem_of_getElem? (i := 140) (rfl)) rfl
theorem wd_861 : (.methodLink R_law 31 yX12_lift : Cond) ∈ gT := gt_4 (List.mem_of_getElem? (i := 141) (by decide +kernel)) rfl
theorem wd_862 : (.instanceMethod yX12_lift : Cond) ∈ gT := gt_4 (List.mem_of_getElem? (i := 142) (by decide +kernel)) rfl
theorem wd_863 : (.selects RX12 yX12_lift yX12_lift : Cond) ∈ gT := gt_4 (List.mem_of_getElem? (i := 143) (by decide +kernel)) rfl
theorem wd_864 : (.code yX12_lift cX12_lift 4 (some .int) : Cond) ∈ gT := gt_4 (List.mem_of_getElem? (i := 144) (rfl)) rfl
theorem wd_865 : (.methodLink R_law 35 yX12_height : Cond) ∈ gT := gt_4 (List.mem_of_getElem? (i := 145) (by decide +kernel)) rfl
theorem wd_866 : (.instanceMethod yX12_height : Cond) ∈ gT := gt_4 (List.mem_of_getElem? (i := 146) (by decide +kernel)) rfl
theorem wd_867 : (.selects RX12 yX12_height yX12_height : Cond) ∈ gT := gt_4 (List.mem_of_getElem? (i := 147) (by decide +kernel)) rfl
theorem wd_868 : (.code yX12_height cX12_height 3 (some .int) : Cond) ∈ gT := gt_4 (List.mem_of_getElem? (i := 148) (rfl)) rfl
theorem wd_869 : (.methodLink RX12 129 yX12_heightOf : Cond) ∈ gT := gt_4 (List.mem_of_getElem? (i := 149) (by decide +kernel)) rfl
theorem wd_871 : (.instanceMethod yX12_heightOf : Cond) ∈ gT := gt_4 (List.mem_of_getElem? (i := 151) (by decide +kernel)) rfl
theorem wd_872 : (.code yX12_heightOf cX12_heightOf 3 (some .int) : Cond) ∈ gT := gt_4 (List.mem_of_getElem? (i := 152) (rfl)) rfl
theorem wd_873 : (.methodLink RX12 126 yX12_heightAs : Cond) ∈ gT := gt_4 (List.mem_of_getElem? (i := 153) (by decide +kernel)) rfl
theorem wd_875 : (.instanceMethod yX12_heightAs : Cond) ∈ gT := gt_4 (List.mem_of_getElem? (i := 155) (by decide +kernel)) rfl
theorem wd_876 : (.code yX12_heightAs cX12_heightAs 5 (some .int) : Cond) ∈ gT := gt_4 (List.mem_of_getElem? (i := 156) (rfl)) rfl
theorem wd_877 : (.methodLink R_law 39 yX12_rises : Cond) ∈ gT := gt_4 (List.mem_of_getElem? (i := 157) (by decide +kernel)) rfl
theorem wd_878 : (.instanceMethod yX12_rises : Cond) ∈ gT := gt_4 (List.mem_of_getElem? (i := 158) (by decide +kernel)) rfl
theorem wd_879 : (.selects RX12 yX12_rises yX12_rises : Cond) ∈ gT := gt_4 (List.mem_of_getElem? (i := 159) (by decide +kernel)) rfl
theorem wd_880 : (.code yX12_rises cX12_rises 6 (some .int) : Cond) ∈ gT := gt_4 (List.mem_of_getElem? (i := 160) (rfl)) rfl
theorem wd_881 : (.methodLink R_law 44 yX12_way : Cond) ∈ gT := gt_4 (List.mem_of_getElem? (i := 161) (by decide +kernel)) rfl
theorem wd_882 : (.instanceMethod yX12_way : Cond) ∈ gT := gt_4 (List.mem_of_getElem? (i := 162) (by decide +kernel)) rfl
theorem wd_883 : (.selects RX12 yX12_way yX12_way : Cond) ∈ gT := gt_4 (List.mem_of_getElem? (i := 163) (by decide +kernel)) rfl
theorem wd_884 : (.code yX12_way cX12_way 9 (some .int) : Cond) ∈ gT := gt_4 (List.mem_of_getElem? (i := 164) (rfl)) rfl
theorem wd_885 : (.methodLink RX12 144 yX12_findFar : Cond) ∈ gT := gt_4 (List.mem_of_getElem? (i := 165) (by decide +kernel)) rfl
theorem wd_887 : (.instanceMethod yX12_findFar : Cond) ∈ gT := gt_4 (List.mem_of_getElem? (i := 167) (by decide +kernel)) rfl
theorem wd_888 : (.code yX12_findFar cX12_findFar 9 none : Cond) ∈ gT := gt_4 (List.mem_of_getElem? (i := 168) (rfl)) rfl
theorem wd_889 : (.constant RX12 136 (999999 : Int32) : Cond) ∈ gT := gt_4 (List.mem_of_getElem? (i := 169) (by decide +kernel)) rfl
theorem wd_890 : (.methodLink RX12 137 yX12_beside : Cond) ∈ gT := gt_4 (List.mem_of_getElem? (i := 170) (by decide +kernel)) rfl
theorem wd_892 : (.instanceMethod yX12_beside : Cond) ∈ gT := gt_4 (List.mem_of_getElem? (i := 172) (by decide +kernel)) rfl
theorem wd_893 : (.code yX12_beside cX12_beside 5 (some .int) : Cond) ∈ gT := gt_4 (List.mem_of_getElem? (i := 173) (rfl)) rfl
theorem wd_894 : (.methodLink RX12 140 yX12_isStep : Cond) ∈ gT := gt_4 (List.mem_of_getElem? (i := 174) (by decide +kernel)) rfl
theorem wd_896 : (.instanceMethod yX12_isStep : Cond) ∈ gT := gt_4 (List.mem_of_getElem? (i := 176) (by decide +kernel)) rfl
theorem wd_897 : (.code yX12_isStep cX12_isStep 7 (some .boolean) : Cond) ∈ gT := gt_4 (List.mem_of_getElem? (i := 177) (rfl)) rfl
theorem wd_898 : (.methodLink RX12 133 yX12_size : Cond) ∈ gT := gt_4 (List.mem_of_getElem? (i := 178) (by decide +kernel)) rfl
theorem wd_899 : (.static yX12_size : Cond) ∈ gT := gt_4 (List.mem_of_getElem? (i := 179) (by decide +kernel)) rfl
theorem wd_900 : (.code yX12_size cX12_size 1 (some .int) : Cond) ∈ gT := gt_4 (List.mem_of_getElem? (i := 180) (rfl)) rfl
theorem wd_901 : (.methodLink R_law 48 yX12_holds : Cond) ∈ gT := gt_4 (List.mem_of_getElem? (i := 181) (by decide +kernel)) rfl
theorem wd_902 : (.instanceMethod yX12_holds : Cond) ∈ gT := gt_4 (List.mem_of_getElem? (i := 182) (by decide +kernel)) rfl
theorem wd_903 : (.selects RX12 yX12_holds yX12_holds : Cond) ∈ gT := gt_4 (List.mem_of_getElem? (i := 183) (by decide +kernel)) rfl
theorem wd_904 : (.code yX12_holds cX12_holds 6 (some .int) : Cond) ∈ gT := gt_4 (List.mem_of_getElem? (i := 184) (rfl)) rfl
theorem wd_905 : (.methodLink R_law 52 yX12_leastStep : Cond) ∈ gT := gt_4 (List.mem_of_getElem? (i := 185) (by decide +kernel)) rfl
theorem wd_906 : (.instanceMethod yX12_leastStep : Cond) ∈ gT := gt_4 (List.mem_of_getElem? (i := 186) (by decide +kernel)) rfl
theorem wd_907 : (.selects RX12 yX12_leastStep yX12_leastStep : Cond) ∈ gT := gt_4 (List.mem_of_getElem? (i := 187) (by decide +kernel)) rfl
theorem wd_908 : (.code yX12_leastStep cX12_leastStep 10 (some .int) : Cond) ∈ gT := gt_4 (List.mem_of_getElem? (i := 188) (rfl)) rfl
theorem wd_909 : (.methodLink R_law 56 yX12_wedges : Cond) ∈ gT := gt_4 (List.mem_of_getElem? (i := 189) (by decide +kernel)) rfl
theorem wd_910 : (.instanceMethod yX12_wedges : Cond) ∈ gT := gt_4 (List.mem_of_getElem? (i := 190) (by decide +kernel)) rfl
theorem wd_911 : (.selects RX12 yX12_wedges yX12_wedges : Cond) ∈ gT := gt_4 (List.mem_of_getElem? (i := 191) (by decide +kernel)) rfl
theorem wd_912 : (.code yX12_wedges cX12_wedges 3 (some .int) : Cond) ∈ gT := gt_4 (List.mem_of_getElem? (i := 192) (rfl)) rfl
theorem wd_913 : (.methodLink RX12 148 yX12_isPlace : Cond) ∈ gT := gt_4 (List.mem_of_getElem? (i := 193) (by decide +kernel)) rfl
theorem wd_915 : (.instanceMethod yX12_isPlace : Cond) ∈ gT := gt_4 (List.mem_of_getElem? (i := 195) (by decide +kernel)) rfl
theorem wd_916 : (.code yX12_isPlace cX12_isPlace 2 (some .boolean) : Cond) ∈ gT := gt_4 (List.mem_of_getElem? (i := 196) (rfl)) rfl
theorem wd_917 : (.methodLink RX12 151 yX12_wedgesOf : Cond) ∈ gT := gt_4 (List.mem_of_getElem? (i := 197) (by decide +kernel)) rfl
theorem wd_919 : (.instanceMethod yX12_wedgesOf : Cond) ∈ gT := gt_4 (List.mem_of_getElem? (i := 199) (by decide +kernel)) rfl
theorem wd_920 : (.code yX12_wedgesOf cX12_wedgesOf 8 (some .int) : Cond) ∈ gT := gt_4 (List.mem_of_getElem? (i := 200) (rfl)) rfl
theorem wd_921 : (.methodLink R_law 60 yX12_best : Cond) ∈ gT := gt_4 (List.mem_of_getElem? (i := 201) (by decide +kernel)) rfl
theorem wd_922 : (.instanceMethod yX12_best : Cond) ∈ gT := gt_4 (List.mem_of_getElem? (i := 202) (by decide +kernel)) rfl
theorem wd_923 : (.selects RX12 yX12_best yX12_best : Cond) ∈ gT := gt_4 (List.mem_of_getElem? (i := 203) (by decide +kernel)) rfl
theorem wd_924 : (.code yX12_best cX12_best 5 (some .int) : Cond) ∈ gT := gt_4 (List.mem_of_getElem? (i := 204) (rfl)) rfl
theorem wd_925 : (.methodLink R_law 64 yX12_two : Cond) ∈ gT := gt_4 (List.mem_of_getElem? (i := 205) (by decide +kernel)) rfl
theorem wd_926 : (.instanceMethod yX12_two : Cond) ∈ gT := gt_4 (List.mem_of_getElem? (i := 206) (by decide +kernel)) rfl
theorem wd_927 : (.selects RX12 yX12_two yX12_two : Cond) ∈ gT := gt_4 (List.mem_of_getElem? (i := 207) (by decide +kernel)) rfl
theorem wd_928 : (.code yX12_two cX12_two 9 (some .int) : Cond) ∈ gT := gt_4 (List.mem_of_getElem? (i := 208) (rfl)) rfl
theorem wd_929 : (.methodLink RX12 154 yX12_areApart : Cond) ∈ gT := gt_4 (List.mem_of_getElem? (i := 209) (by decide +kernel)) rfl
theorem wd_931 : (.instanceMethod yX12_areApart : Cond) ∈ gT := gt_4 (List.mem_of_getElem? (i := 211) (by decide +kernel)) rfl
theorem wd_932 : (.code yX12_areApart cX12_areApart 3 (some .boolean) : Cond) ∈ gT := gt_4 (List.mem_of_getElem? (i := 212) (rfl)) rfl
theorem wd_933 : (.methodLink R_law 68 yX12_oval : Cond) ∈ gT := gt_4 (List.mem_of_getElem? (i := 213) (by decide +kernel)) rfl
theorem wd_934 : (.instanceMethod yX12_oval : Cond) ∈ gT := gt_4 (List.mem_of_getElem? (i := 214) (by decide +kernel)) rfl
theorem wd_935 : (.selects RX12 yX12_oval yX12_oval : Cond) ∈ gT := gt_4 (List.mem_of_getElem? (i := 215) (by decide +kernel)) rfl
theorem wd_936 : (.code yX12_oval cX12_oval 10 (some .int) : Cond) ∈ gT := gt_4 (List.mem_of_getElem? (i := 216) (rfl)) rfl
theorem wd_937 : (.methodLink RX12 157 yX12_apartOf : Cond) ∈ gT := gt_4 (List.mem_of_getElem? (i := 217) (by decide +kernel)) rfl
theorem wd_939 : (.instanceMethod yX12_apartOf : Cond) ∈ gT := gt_4 (List.mem_of_getElem? (i := 219) (by decide +kernel)) rfl
theorem wd_940 : (.code yX12_apartOf cX12_apartOf 9 (some .int) : Cond) ∈ gT := gt_4 (List.mem_of_getElem? (i := 220) (rfl)) rfl
theorem wd_941 : (.methodLink R_law 72 yX12_depth : Cond) ∈ gT := gt_4 (List.mem_of_getElem? (i := 221) (by decide +kernel)) rfl
theorem wd_942 : (.instanceMethod yX12_depth : Cond) ∈ gT := gt_4 (List.mem_of_getElem? (i := 222) (by decide +kernel)) rfl
theorem wd_943 : (.selects RX12 yX12_depth yX12_depth : Cond) ∈ gT := gt_4 (List.mem_of_getElem? (i := 223) (by decide +kernel)) rfl
theorem wd_944 : (.code yX12_depth cX12_depth 3 (some .int) : Cond) ∈ gT := gt_4 (List.mem_of_getElem? (i := 224) (rfl)) rfl
theorem wd_945 : (.methodLink RX12 163 yX12_findWater : Cond) ∈ gT := gt_4 (List.mem_of_getElem? (i := 225) (by decide +kernel)) rfl
theorem wd_947 : (.instanceMethod yX12_findWater : Cond) ∈ gT := gt_4 (List.mem_of_getElem? (i := 227) (by decide +kernel)) rfl
theorem wd_948 : (.code yX12_findWater cX12_findWater 7 none : Cond) ∈ gT := gt_4 (List.mem_of_getElem? (i := 228) (rfl)) rfl
theorem wd_949 : (.methodLink RX12 160 yX12_isEdge : Cond) ∈ gT := gt_4 (List.mem_of_getElem? (i := 229) (by decide +kernel)) rfl
theorem wd_951 : (.instanceMethod yX12_isEdge : Cond) ∈ gT := gt_4 (List.mem_of_getElem? (i := 231) (by decide +kernel)) rfl
theorem wd_952 : (.code yX12_isEdge cX12_isEdge 2 (some .boolean) : Cond) ∈ gT := gt_4 (List.mem_of_getElem? (i := 232) (rfl)) rfl
theorem wd_953 : (.methodLink R_law 77 yX12_pool : Cond) ∈ gT := gt_4 (List.mem_of_getElem? (i := 233) (by decide +kernel)) rfl
theorem wd_954 : (.instanceMethod yX12_pool : Cond) ∈ gT := gt_4 (List.mem_of_getElem? (i := 234) (by decide +kernel)) rfl
theorem wd_955 : (.selects RX12 yX12_pool yX12_pool : Cond) ∈ gT := gt_4 (List.mem_of_getElem? (i := 235) (by decide +kernel)) rfl
theorem wd_956 : (.code yX12_pool cX12_pool 2 (some .int) : Cond) ∈ gT := gt_4 (List.mem_of_getElem? (i := 236) (rfl)) rfl
theorem wd_957 : (.methodLink RX12 167 yX12_poolOf : Cond) ∈ gT := gt_4 (List.mem_of_getElem? (i := 237) (by decide +kernel)) rfl
theorem wd_959 : (.instanceMethod yX12_poolOf : Cond) ∈ gT := gt_4 (List.mem_of_getElem? (i := 239) (by decide +kernel)) rfl
theorem wd_960 : (.code yX12_poolOf cX12_poolOf 4 (some .int) : Cond) ∈ gT := gt_5 (List.mem_of_getElem? (i := 0) (rfl)) rfl
theorem wd_961 : (.methodLink R_law 81 yX12_drain : Cond) ∈ gT := gt_5 (List.mem_of_getElem? (i := 1) (by decide +kernel)) rfl
theorem wd_962 : (.instanceMethod yX12_drain : Cond) ∈ gT := gt_5 (List.mem_of_getElem? (i := 2) (by decide +kernel)) rfl
theorem wd_963 : (.selects RX12 yX12_drain yX12_drain : Cond) ∈ gT := gt_5 (List.mem_of_getElem? (i := 3) (by decide +kernel)) rfl
theorem wd_964 : (.code yX12_drain cX12_drain 8 (some .int) : Cond) ∈ gT := gt_5 (List.mem_of_getElem? (i := 4) (rfl)) rfl
theorem wd_965 : (.methodLink R_law 85 yX12_statue : Cond) ∈ gT := gt_5 (List.mem_of_getElem? (i := 5) (by decide +kernel)) rfl
theorem wd_966 : (.instanceMethod yX12_statue : Cond) ∈ gT := gt_5 (List.mem_of_getElem? (i := 6) (by decide +kernel)) rfl
theorem wd_967 : (.selects RX12 yX12_statue yX12_statue : Cond) ∈ gT := gt_5 (List.mem_of_getElem? (i := 7) (by decide +kernel)) rfl
theorem wd_968 : (.code yX12_statue cX12_statue 5 (some .int) : Cond) ∈ gT := gt_5 (List.mem_of_getElem? (i := 8) (rfl)) rfl
theorem wd_969 : (.methodLink RX12 170 yX12_areBeside : Cond) ∈ gT := gt_5 (List.mem_of_getElem? (i := 9) (by decide +kernel)) rfl
theorem wd_971 : (.instanceMethod yX12_areBeside : Cond) ∈ gT := gt_5 (List.mem_of_getElem? (i := 11) (by decide +kernel)) rfl
theorem wd_972 : (.code yX12_areBeside cX12_areBeside 4 (some .boolean) : Cond) ∈ gT := gt_5 (List.mem_of_getElem? (i := 12) (rfl)) rfl
theorem wd_973 : (.methodLink R_law 89 yX12_nights : Cond) ∈ gT := gt_5 (List.mem_of_getElem? (i := 13) (by decide +kernel)) rfl
theorem wd_974 : (.instanceMethod yX12_nights : Cond) ∈ gT := gt_5 (List.mem_of_getElem? (i := 14) (by decide +kernel)) rfl
theorem wd_975 : (.selects RX12 yX12_nights yX12_nights : Cond) ∈ gT := gt_5 (List.mem_of_getElem? (i := 15) (by decide +kernel)) rfl
theorem wd_976 : (.code yX12_nights cX12_nights 5 (some .int) : Cond) ∈ gT := gt_5 (List.mem_of_getElem? (i := 16) (rfl)) rfl
theorem wd_977 : (.methodLink RX12 173 yX12_apartNow : Cond) ∈ gT := gt_5 (List.mem_of_getElem? (i := 17) (by decide +kernel)) rfl
theorem wd_979 : (.instanceMethod yX12_apartNow : Cond) ∈ gT := gt_5 (List.mem_of_getElem? (i := 19) (by decide +kernel)) rfl
theorem wd_980 : (.code yX12_apartNow cX12_apartNow 4 (some .int) : Cond) ∈ gT := gt_5 (List.mem_of_getElem? (i := 20) (rfl)) rfl
theorem wd_981 : (.methodLink RX12 176 yX12_goNight : Cond) ∈ gT := gt_5 (List.mem_of_getElem? (i := 21) (by decide +kernel)) rfl
theorem wd_983 : (.instanceMethod yX12_goNight : Cond) ∈ gT := gt_5 (List.mem_of_getElem? (i := 23) (by decide +kernel)) rfl
theorem wd_984 : (.code yX12_goNight cX12_goNight 6 none : Cond) ∈ gT := gt_5 (List.mem_of_getElem? (i := 24) (rfl)) rfl
theorem wd_985 : (.methodLink R_law 93 yX12_reading : Cond) ∈ gT := gt_5 (List.mem_of_getElem? (i := 25) (by decide +kernel)) rfl
theorem wd_986 : (.instanceMethod yX12_reading : Cond) ∈ gT := gt_5 (List.mem_of_getElem? (i := 26) (by decide +kernel)) rfl
theorem wd_987 : (.selects RX12 yX12_reading yX12_reading : Cond) ∈ gT := gt_5 (List.mem_of_getElem? (i := 27) (by decide +kernel)) rfl
theorem wd_988 : (.code yX12_reading cX12_reading 4 (some .int) : Cond) ∈ gT := gt_5 (List.mem_of_getElem? (i := 28) (rfl)) rfl
theorem wd_989 : (.methodLink R_law 97 yX12_back : Cond) ∈ gT := gt_5 (List.mem_of_getElem? (i := 29) (by decide +kernel)) rfl
theorem wd_990 : (.instanceMethod yX12_back : Cond) ∈ gT := gt_5 (List.mem_of_getElem? (i := 30) (by decide +kernel)) rfl
theorem wd_991 : (.selects RX12 yX12_back yX12_back : Cond) ∈ gT := gt_5 (List.mem_of_getElem? (i := 31) (by decide +kernel)) rfl
theorem wd_992 : (.code yX12_back cX12_back 2 (some .int) : Cond) ∈ gT := gt_5 (List.mem_of_getElem? (i := 32) (rfl)) rfl
theorem wd_993 : (.methodLink R_law 101 yX12_kinds : Cond) ∈ gT := gt_5 (List.mem_of_getElem? (i := 33) (by decide +kernel)) rfl
theorem wd_994 : (.instanceMethod yX12_kinds : Cond) ∈ gT := gt_5 (List.mem_of_getElem? (i := 34) (by decide +kernel)) rfl
theorem wd_995 : (.selects RX12 yX12_kinds yX12_kinds : Cond) ∈ gT := gt_5 (List.mem_of_getElem? (i := 35) (by decide +kernel)) rfl
theorem wd_996 : (.code yX12_kinds cX12_kinds 4 (some .int) : Cond) ∈ gT := gt_5 (List.mem_of_getElem? (i := 36) (rfl)) rfl
theorem wd_997 : (.methodLink RX12 179 yX12_isKind : Cond) ∈ gT := gt_5 (List.mem_of_getElem? (i := 37) (by decide +kernel)) rfl
theorem wd_999 : (.instanceMethod yX12_isKind : Cond) ∈ gT := gt_5 (List.mem_of_getElem? (i := 39) (by decide +kernel)) rfl
theorem wd_1000 : (.code yX12_isKind cX12_isKind 4 (some .boolean) : Cond) ∈ gT := gt_5 (List.mem_of_getElem? (i := 40) (rfl)) rfl
theorem wd_1001 : (.methodLink R_law 105 yX12_sheet : Cond) ∈ gT := gt_5 (List.mem_of_getElem? (i := 41) (by decide +kernel)) rfl
theorem wd_1002 : (.instanceMethod yX12_sheet : Cond) ∈ gT := gt_5 (List.mem_of_getElem? (i := 42) (by decide +kernel)) rfl
theorem wd_1003 : (.selects RX12 yX12_sheet yX12_sheet : Cond) ∈ gT := gt_5 (List.mem_of_getElem? (i := 43) (by decide +kernel)) rfl
theorem wd_1004 : (.code yX12_sheet cX12_sheet 5 (some .int) : Cond) ∈ gT := gt_5 (List.mem_of_getElem? (i := 44) (rfl)) rfl
theorem wd_1005 : (.methodLink R_law 109 yX12_lose : Cond) ∈ gT := gt_5 (List.mem_of_getElem? (i := 45) (by decide +kernel)) rfl
theorem wd_1006 : (.instanceMethod yX12_lose : Cond) ∈ gT := gt_5 (List.mem_of_getElem? (i := 46) (by decide +kernel)) rfl
theorem wd_1007 : (.selects RX12 yX12_lose yX12_lose : Cond) ∈ gT := gt_5 (List.mem_of_getElem? (i := 47) (by decide +kernel)) rfl
theorem wd_1008 : (.code yX12_lose cX12_lose 3 (some .int) : Cond) ∈ gT := gt_5 (List.mem_of_getElem? (i := 48) (rfl)) rfl
theorem wd_1009 : (.methodLink R_law 113 yX12_put : Cond) ∈ gT := gt_5 (List.mem_of_getElem? (i := 49) (by decide +kernel)) rfl
theorem wd_1010 : (.instanceMethod yX12_put : Cond) ∈ gT := gt_5 (List.mem_of_getElem? (i := 50) (by decide +kernel)) rfl
theorem wd_1011 : (.selects RX12 yX12_put yX12_put : Cond) ∈ gT := gt_5 (List.mem_of_getElem? (i := 51) (by decide +kernel)) rfl
theorem wd_1012 : (.code yX12_put cX12_put 4 (some .int) : Cond) ∈ gT := gt_5 (List.mem_of_getElem? (i := 52) (rfl)) rfl
theorem wd_1013 : (.methodLink R_law 118 yX12_cell : Cond) ∈ gT := gt_5 (List.mem_of_getElem? (i := 53) (by decide +kernel)) rfl
theorem wd_1014 : (.instanceMethod yX12_cell : Cond) ∈ gT := gt_5 (List.mem_of_getElem? (i := 54) (by decide +kernel)) rfl
theorem wd_1015 : (.selects RX12 yX12_cell yX12_cell : Cond) ∈ gT := gt_5 (List.mem_of_getElem? (i := 55) (by decide +kernel)) rfl
theorem wd_1016 : (.code yX12_cell cX12_cell 4 (some .long) : Cond) ∈ gT := gt_5 (List.mem_of_getElem? (i := 56) (rfl)) rfl
theorem wd_1017 : (.constantLong RX12 66 (-9223372036854775808 : Int64) : Cond) ∈ gT := gt_5 (List.mem_of_getElem? (i := 57) (by decide +kernel)) rfl
theorem wd_1018 : (.methodLink RX12 182 yX12_lost : Cond) ∈ gT := gt_5 (List.mem_of_getElem? (i := 58) (by decide +kernel)) rfl
theorem wd_1020 : (.instanceMethod yX12_lost : Cond) ∈ gT := gt_5 (List.mem_of_getElem? (i := 60) (by decide +kernel)) rfl
theorem wd_1021 : (.code yX12_lost cX12_lost 2 (some .long) : Cond) ∈ gT := gt_5 (List.mem_of_getElem? (i := 61) (rfl)) rfl
theorem wd_1022 : (.methodLink R_law 122 yX12_copy : Cond) ∈ gT := gt_5 (List.mem_of_getElem? (i := 62) (by decide +kernel)) rfl
theorem wd_1023 : (.instanceMethod yX12_copy : Cond) ∈ gT := gt_5 (List.mem_of_getElem? (i := 63) (by decide +kernel)) rfl
theorem wd_1024 : (.selects RX12 yX12_copy yX12_copy : Cond) ∈ gT := gt_5 (List.mem_of_getElem? (i := 64) (by decide +kernel)) rfl
theorem wd_1025 : (.code yX12_copy cX12_copy 10 (some .int) : Cond) ∈ gT := gt_5 (List.mem_of_getElem? (i := 65) (rfl)) rfl
theorem wd_1026 : (.methodLink R_law 126 yX12_tell : Cond) ∈ gT := gt_5 (List.mem_of_getElem? (i := 66) (by decide +kernel)) rfl
theorem wd_1027 : (.instanceMethod yX12_tell : Cond) ∈ gT := gt_5 (List.mem_of_getElem? (i := 67) (by decide +kernel)) rfl
theorem wd_1028 : (.selects RX12 yX12_tell yX12_tell : Cond) ∈ gT := gt_5 (List.mem_of_getElem? (i := 68) (by decide +kernel)) rfl
theorem wd_1029 : (.code yX12_tell cX12_tell 3 (some .int) : Cond) ∈ gT := gt_5 (List.mem_of_getElem? (i := 69) (rfl)) rfl
theorem wd_1030 : (.methodLink RX12 189 yX12_begins : Cond) ∈ gT := gt_5 (List.mem_of_getElem? (i := 70) (by decide +kernel)) rfl
theorem wd_1032 : (.instanceMethod yX12_begins : Cond) ∈ gT := gt_5 (List.mem_of_getElem? (i := 72) (by decide +kernel)) rfl
theorem wd_1033 : (.code yX12_begins cX12_begins 2 none : Cond) ∈ gT := gt_5 (List.mem_of_getElem? (i := 73) (rfl)) rfl
theorem wd_1034 : (.methodLink R_law 130 yX12_tread : Cond) ∈ gT := gt_5 (List.mem_of_getElem? (i := 74) (by decide +kernel)) rfl
theorem wd_1035 : (.instanceMethod yX12_tread : Cond) ∈ gT := gt_5 (List.mem_of_getElem? (i := 75) (by decide +kernel)) rfl
theorem wd_1036 : (.selects RX12 yX12_tread yX12_tread : Cond) ∈ gT := gt_5 (List.mem_of_getElem? (i := 76) (by decide +kernel)) rfl
theorem wd_1037 : (.code yX12_tread cX12_tread 2 (some .int) : Cond) ∈ gT := gt_5 (List.mem_of_getElem? (i := 77) (rfl)) rfl
theorem wd_1038 : (.methodLink R_law 134 yX12_as : Cond) ∈ gT := gt_5 (List.mem_of_getElem? (i := 78) (by decide +kernel)) rfl
theorem wd_1039 : (.instanceMethod yX12_as : Cond) ∈ gT := gt_5 (List.mem_of_getElem? (i := 79) (by decide +kernel)) rfl
theorem wd_1040 : (.selects RX12 yX12_as yX12_as : Cond) ∈ gT := gt_5 (List.mem_of_getElem? (i := 80) (by decide +kernel)) rfl
theorem wd_1041 : (.code yX12_as cX12_as 3 (some .int) : Cond) ∈ gT := gt_5 (List.mem_of_getElem? (i := 81) (rfl)) rfl
theorem wd_1042 : (.methodLink R_law 139 yX12_trace : Cond) ∈ gT := gt_5 (List.mem_of_getElem? (i := 82) (by decide +kernel)) rfl
theorem wd_1043 : (.instanceMethod yX12_trace : Cond) ∈ gT := gt_5 (List.mem_of_getElem? (i := 83) (by decide +kernel)) rfl
theorem wd_1044 : (.selects RX12 yX12_trace yX12_trace : Cond) ∈ gT := gt_5 (List.mem_of_getElem? (i := 84) (by decide +kernel)) rfl
theorem wd_1045 : (.code yX12_trace cX12_trace 1 (some .int) : Cond) ∈ gT := gt_5 (List.mem_of_getElem? (i := 85) (rfl)) rfl
theorem wd_1046 : (.methodLink R_law 143 yX12_fault : Cond) ∈ gT := gt_5 (List.mem_of_getElem? (i := 86) (by decide +kernel)) rfl
theorem wd_1047 : (.instanceMethod yX12_fault : Cond) ∈ gT := gt_5 (List.mem_of_getElem? (i := 87) (by decide +kernel)) rfl
theorem wd_1048 : (.selects RX12 yX12_fault yX12_fault : Cond) ∈ gT := gt_5 (List.mem_of_getElem? (i := 88) (by decide +kernel)) rfl
theorem wd_1049 : (.code yX12_fault cX12_fault 1 (some .int) : Cond) ∈ gT := gt_5 (List.mem_of_getElem? (i := 89) (rfl)) rfl
theorem wd_1050 : (.methodLink R_law 147 yX12_many : Cond) ∈ gT := gt_5 (List.mem_of_getElem? (i := 90) (by decide +kernel)) rfl
theorem wd_1051 : (.instanceMethod yX12_many : Cond) ∈ gT := gt_5 (List.mem_of_getElem? (i := 91) (by decide +kernel)) rfl
theorem wd_1052 : (.selects RX12 yX12_many yX12_many : Cond) ∈ gT := gt_5 (List.mem_of_getElem? (i := 92) (by decide +kernel)) rfl
theorem wd_1053 : (.code yX12_many cX12_many 2 (some .int) : Cond) ∈ gT := gt_5 (List.mem_of_getElem? (i := 93) (rfl)) rfl
theorem wd_1054 : (.sameMethod "BreathSquare$Clay" "BreathSquare$Clay" "swell" "(II)I" : Cond) ∈ gT := gt_5 (List.mem_of_getElem? (i := 94) (by decide +kernel)) rfl
theorem wd_1055 : (.sameMethod "BreathSquare$Clay" "BreathSquare$Clay" "telling" "(ILBreathSquare$Trace;)I" : Cond) ∈ gT := gt_5 (List.mem_of_getElem? (i := 95) (by decide +kernel)) rfl
theorem wd_1056 : (.sameMethod "BreathSquare$Stone" "BreathSquare$Stone" "stoneTelling" "(ILBreathSquare$Trace;)I" : Cond) ∈ gT := gt_5 (List.mem_of_getElem? (i := 96) (by decide +kernel)) rfl
theorem wd_1057 : (.selects RX0 yX7_stoneTelling yX7_stoneTelling : Cond) ∈ gT := gt_5 (List.mem_of_getElem? (i := 97) (by decide +kernel)) rfl
theorem wd_1058 : (.selects RX1 yX7_stoneTelling yX7_stoneTelling : Cond) ∈ gT := gt_5 (List.mem_of_getElem? (i := 98) (by decide +kernel)) rfl
theorem wd_1059 : (.selects RX7 yX7_stoneTelling yX7_stoneTelling : Cond) ∈ gT := gt_5 (List.mem_of_getElem? (i := 99) (by decide +kernel)) rfl
theorem wn_1060 : (.castable RX0 RX7 : Cond) ∈ lw_tbl := lt_5 (List.mem_of_getElem? (i := 100) (by decide +kernel))
theorem wn_1061 : (.castable RX1 RX7 : Cond) ∈ lw_tbl := lt_5 (List.mem_of_getElem? (i := 101) (by decide +kernel))
theorem ws_X11_failed : (.selects RX11 yX11_failed yX11_failed : Cond) ∈ gT := List.mem_filter.mpr ⟨List.mem_append_left _ (List.mem_map.mpr ⟨(⟨"BreathSquare", "failed", "(I)I"⟩, 9), List.mem_of_getElem? (i := 0) (by decide +kernel), rfl⟩), rfl⟩
theorem ws_X10_apartTo : (.selects RX10 yX10_apartTo yX10_apartTo : Cond) ∈ gT := List.mem_filter.mpr ⟨List.mem_append_left _ (List.mem_map.mpr ⟨(⟨"BreathSquare$Ways", "apartTo", "(II)I"⟩, 6), List.mem_of_getElem? (i := 1) (by decide +kernel), rfl⟩), rfl⟩
theorem ws_X10_stepAt : (.selects RX10 yX10_stepAt yX10_stepAt : Cond) ∈ gT := List.mem_filter.mpr ⟨List.mem_append_left _ (List.mem_map.mpr ⟨(⟨"BreathSquare$Ways", "stepAt", "(III)I"⟩, 6), List.mem_of_getElem? (i := 2) (by decide +kernel), rfl⟩), rfl⟩
theorem ws_X10_nextOnWay : (.selects RX10 yX10_nextOnWay yX10_nextOnWay : Cond) ∈ gT := List.mem_filter.mpr ⟨List.mem_append_left _ (List.mem_map.mpr ⟨(⟨"BreathSquare$Ways", "nextOnWay", "(II)I"⟩, 6), List.mem_of_getElem? (i := 3) (by decide +kernel), rfl⟩), rfl⟩
theorem ws_X10_leastByNeighbours : (.selects RX10 yX10_leastByNeighbours yX10_leastByNeighbours : Cond) ∈ gT := List.mem_filter.mpr ⟨List.mem_append_left _ (List.mem_map.mpr ⟨(⟨"BreathSquare$Ways", "leastByNeighbours", "(I)I"⟩, 6), List.mem_of_getElem? (i := 4) (by decide +kernel), rfl⟩), rfl⟩
theorem ws_X11_refusalOf : (.selects RX11 yX11_refusalOf yX11_refusalOf : Cond) ∈ gT := List.mem_filter.mpr ⟨List.mem_append_left _ (List.mem_map.mpr ⟨(⟨"BreathSquare", "refusalOf", "(IZ)I"⟩, 9), List.mem_of_getElem? (i := 5) (by decide +kernel), rfl⟩), rfl⟩
theorem ws_X4_areClear : (.selects RX4 yX4_areClear yX4_areClear : Cond) ∈ gT := List.mem_filter.mpr ⟨List.mem_append_left _ (List.mem_map.mpr ⟨(⟨"BreathSquare$Places", "areClear", "(II)Z"⟩, 6), List.mem_of_getElem? (i := 6) (by decide +kernel), rfl⟩), rfl⟩
theorem ws_X4_takePair : (.selects RX4 yX4_takePair yX4_takePair : Cond) ∈ gT := List.mem_filter.mpr ⟨List.mem_append_left _ (List.mem_map.mpr ⟨(⟨"BreathSquare$Places", "takePair", "(III)V"⟩, 6), List.mem_of_getElem? (i := 7) (by decide +kernel), rfl⟩), rfl⟩
theorem ws_X4_sizeOf : (.selects RX4 yX4_sizeOf yX4_sizeOf : Cond) ∈ gT := List.mem_filter.mpr ⟨List.mem_append_left _ (List.mem_map.mpr ⟨(⟨"BreathSquare$Places", "sizeOf", "(II)I"⟩, 6), List.mem_of_getElem? (i := 8) (by decide +kernel), rfl⟩), rfl⟩
theorem ws_X4_spread : (.selects RX4 yX4_spread yX4_spread : Cond) ∈ gT := List.mem_filter.mpr ⟨List.mem_append_left _ (List.mem_map.mpr ⟨(⟨"BreathSquare$Places", "spread", "(II)I"⟩, 6), List.mem_of_getElem? (i := 9) (by decide +kernel), rfl⟩), rfl⟩
theorem ws_X9_lowestBeside : (.selects RX9 yX9_lowestBeside yX9_lowestBeside : Cond) ∈ gT := List.mem_filter.mpr ⟨List.mem_append_left _ (List.mem_map.mpr ⟨(⟨"BreathSquare$Water", "lowestBeside", "(I)I"⟩, 3), List.mem_of_getElem? (i := 10) (by decide +kernel), rfl⟩), rfl⟩
theorem ws_X2_putInOrder : (.selects RX2 yX2_putInOrder yX2_putInOrder : Cond) ∈ gT := List.mem_filter.mpr ⟨List.mem_append_left _ (List.mem_map.mpr ⟨(⟨"BreathSquare$Mason", "putInOrder", "(I)V"⟩, 2), List.mem_of_getElem? (i := 11) (by decide +kernel), rfl⟩), rfl⟩
theorem ws_X5_areAllSo : (.selects RX5 yX5_areAllSo yX5_areAllSo : Cond) ∈ gT := List.mem_filter.mpr ⟨List.mem_append_left _ (List.mem_map.mpr ⟨(⟨"BreathSquare$Readings", "areAllSo", "(II)Z"⟩, 5), List.mem_of_getElem? (i := 12) (by decide +kernel), rfl⟩), rfl⟩
theorem ws_X12_against : (.selects RX12 yX12_against yX12_against : Cond) ∈ gT := List.mem_filter.mpr ⟨List.mem_append_left _ (List.mem_map.mpr ⟨(⟨"BreathSquareModel", "against", "(IIII)I"⟩, 25), List.mem_of_getElem? (i := 13) (by decide +kernel), rfl⟩), rfl⟩
theorem ws_X12_fails : (.selects RX12 yX12_fails yX12_fails : Cond) ∈ gT := List.mem_filter.mpr ⟨List.mem_append_left _ (List.mem_map.mpr ⟨(⟨"BreathSquareModel", "fails", "(I)I"⟩, 25), List.mem_of_getElem? (i := 14) (by decide +kernel), rfl⟩), rfl⟩
theorem ws_X12_readSquare : (.selects RX12 yX12_readSquare yX12_readSquare : Cond) ∈ gT := List.mem_filter.mpr ⟨List.mem_append_left _ (List.mem_map.mpr ⟨(⟨"BreathSquareModel", "readSquare", "(I)Z"⟩, 25), List.mem_of_getElem? (i := 15) (by decide +kernel), rfl⟩), rfl⟩
theorem ws_X12_digit : (.selects RX12 yX12_digit yX12_digit : Cond) ∈ gT := List.mem_filter.mpr ⟨List.mem_append_left _ (List.mem_map.mpr ⟨(⟨"BreathSquareModel", "digit", "(III)I"⟩, 25), List.mem_of_getElem? (i := 16) (by decide +kernel), rfl⟩), rfl⟩
theorem ws_X12_readStone : (.selects RX12 yX12_readStone yX12_readStone : Cond) ∈ gT := List.mem_filter.mpr ⟨List.mem_append_left _ (List.mem_map.mpr ⟨(⟨"BreathSquareModel", "readStone", "(II)Z"⟩, 25), List.mem_of_getElem? (i := 17) (by decide +kernel), rfl⟩), rfl⟩
theorem ws_X12_all : (.selects RX12 yX12_all yX12_all : Cond) ∈ gT := List.mem_filter.mpr ⟨List.mem_append_left _ (List.mem_map.mpr ⟨(⟨"BreathSquareModel", "all", "()I"⟩, 25), List.mem_of_getElem? (i := 18) (by decide +kernel), rfl⟩), rfl⟩
theorem ws_X12_isStone : (.selects RX12 yX12_isStone yX12_isStone : Cond) ∈ gT := List.mem_filter.mpr ⟨List.mem_append_left _ (List.mem_map.mpr ⟨(⟨"BreathSquareModel", "isStone", "(I)Z"⟩, 25), List.mem_of_getElem? (i := 19) (by decide +kernel), rfl⟩), rfl⟩
theorem ws_X12_heightOf : (.selects RX12 yX12_heightOf yX12_heightOf : Cond) ∈ gT := List.mem_filter.mpr ⟨List.mem_append_left _ (List.mem_map.mpr ⟨(⟨"BreathSquareModel", "heightOf", "(II)I"⟩, 25), List.mem_of_getElem? (i := 20) (by decide +kernel), rfl⟩), rfl⟩
theorem ws_X12_heightAs : (.selects RX12 yX12_heightAs yX12_heightAs : Cond) ∈ gT := List.mem_filter.mpr ⟨List.mem_append_left _ (List.mem_map.mpr ⟨(⟨"BreathSquareModel", "heightAs", "(III)I"⟩, 25), List.mem_of_getElem? (i := 21) (by decide +kernel), rfl⟩), rfl⟩
theorem ws_X12_findFar : (.selects RX12 yX12_findFar yX12_findFar : Cond) ∈ gT := List.mem_filter.mpr ⟨List.mem_append_left _ (List.mem_map.mpr ⟨(⟨"BreathSquareModel", "findFar", "(IIII)V"⟩, 25), List.mem_of_getElem? (i := 22) (by decide +kernel), rfl⟩), rfl⟩
theorem ws_X12_beside : (.selects RX12 yX12_beside yX12_beside : Cond) ∈ gT := List.mem_filter.mpr ⟨List.mem_append_left _ (List.mem_map.mpr ⟨(⟨"BreathSquareModel", "beside", "(II)I"⟩, 25), List.mem_of_getElem? (i := 23) (by decide +kernel), rfl⟩), rfl⟩
theorem ws_X12_isStep : (.selects RX12 yX12_isStep yX12_isStep : Cond) ∈ gT := List.mem_filter.mpr ⟨List.mem_append_left _ (List.mem_map.mpr ⟨(⟨"BreathSquareModel", "isStep", "(IIIII)Z"⟩, 25), List.mem_of_getElem? (i := 24) (by decide +kernel), rfl⟩), rfl⟩
theorem ws_X12_isPlace : (.selects RX12 yX12_isPlace yX12_isPlace : Cond) ∈ gT := List.mem_filter.mpr ⟨List.mem_append_left _ (List.mem_map.mpr ⟨(⟨"BreathSquareModel", "isPlace", "(I)Z"⟩, 25), List.mem_of_getElem? (i := 25) (by decide +kernel), rfl⟩), rfl⟩
theorem ws_X12_wedgesOf : (.selects RX12 yX12_wedgesOf yX12_wedgesOf : Cond) ∈ gT := List.mem_filter.mpr ⟨List.mem_append_left _ (List.mem_map.mpr ⟨(⟨"BreathSquareModel", "wedgesOf", "(II)I"⟩, 25), List.mem_of_getElem? (i := 26) (by decide +kernel), rfl⟩), rfl⟩
theorem ws_X12_areApart : (.selects RX12 yX12_areApart yX12_areApart : Cond) ∈ gT := List.mem_filter.mpr ⟨List.mem_append_left _ (List.mem_map.mpr ⟨(⟨"BreathSquareModel", "areApart", "(II)Z"⟩, 25), List.mem_of_getElem? (i := 27) (by decide +kernel), rfl⟩), rfl⟩
theorem ws_X12_apartOf : (.selects RX12 yX12_apartOf yX12_apartOf : Cond) ∈ gT := List.mem_filter.mpr ⟨List.mem_append_left _ (List.mem_map.mpr ⟨(⟨"BreathSquareModel", "apartOf", "(III)I"⟩, 25), List.mem_of_getElem? (i := 28) (by decide +kernel), rfl⟩), rfl⟩
theorem ws_X12_findWater : (.selects RX12 yX12_findWater yX12_findWater : Cond) ∈ gT := List.mem_filter.mpr ⟨List.mem_append_left _ (List.mem_map.mpr ⟨(⟨"BreathSquareModel", "findWater", "(I)V"⟩, 25), List.mem_of_getElem? (i := 29) (by decide +kernel), rfl⟩), rfl⟩
theorem ws_X12_isEdge : (.selects RX12 yX12_isEdge yX12_isEdge : Cond) ∈ gT := List.mem_filter.mpr ⟨List.mem_append_left _ (List.mem_map.mpr ⟨(⟨"BreathSquareModel", "isEdge", "(I)Z"⟩, 25), List.mem_of_getElem? (i := 30) (by decide +kernel), rfl⟩), rfl⟩
theorem ws_X12_poolOf : (.selects RX12 yX12_poolOf yX12_poolOf : Cond) ∈ gT := List.mem_filter.mpr ⟨List.mem_append_left _ (List.mem_map.mpr ⟨(⟨"BreathSquareModel", "poolOf", "(I)I"⟩, 25), List.mem_of_getElem? (i := 31) (by decide +kernel), rfl⟩), rfl⟩
theorem ws_X12_areBeside : (.selects RX12 yX12_areBeside yX12_areBeside : Cond) ∈ gT := List.mem_filter.mpr ⟨List.mem_append_left _ (List.mem_map.mpr ⟨(⟨"BreathSquareModel", "areBeside", "(II)Z"⟩, 25), List.mem_of_getElem? (i := 32) (by decide +kernel), rfl⟩), rfl⟩
theorem ws_X12_apartNow : (.selects RX12 yX12_apartNow yX12_apartNow : Cond) ∈ gT := List.mem_filter.mpr ⟨List.mem_append_left _ (List.mem_map.mpr ⟨(⟨"BreathSquareModel", "apartNow", "()I"⟩, 25), List.mem_of_getElem? (i := 33) (by decide +kernel), rfl⟩), rfl⟩
theorem ws_X12_goNight : (.selects RX12 yX12_goNight yX12_goNight : Cond) ∈ gT := List.mem_filter.mpr ⟨List.mem_append_left _ (List.mem_map.mpr ⟨(⟨"BreathSquareModel", "goNight", "(I)V"⟩, 25), List.mem_of_getElem? (i := 34) (by decide +kernel), rfl⟩), rfl⟩
theorem ws_X12_isKind : (.selects RX12 yX12_isKind yX12_isKind : Cond) ∈ gT := List.mem_filter.mpr ⟨List.mem_append_left _ (List.mem_map.mpr ⟨(⟨"BreathSquareModel", "isKind", "(II)Z"⟩, 25), List.mem_of_getElem? (i := 35) (by decide +kernel), rfl⟩), rfl⟩
theorem ws_X12_lost : (.selects RX12 yX12_lost yX12_lost : Cond) ∈ gT := List.mem_filter.mpr ⟨List.mem_append_left _ (List.mem_map.mpr ⟨(⟨"BreathSquareModel", "lost", "(I)J"⟩, 25), List.mem_of_getElem? (i := 36) (by decide +kernel), rfl⟩), rfl⟩
theorem ws_X12_begins : (.selects RX12 yX12_begins yX12_begins : Cond) ∈ gT := List.mem_filter.mpr ⟨List.mem_append_left _ (List.mem_map.mpr ⟨(⟨"BreathSquareModel", "begins", "(I)V"⟩, 25), List.mem_of_getElem? (i := 37) (by decide +kernel), rfl⟩), rfl⟩
theorem giX0 : ∀ w ∈ wsX00, w ∈ gT := fun w h => List.mem_filter.mpr ⟨(by decide +kernel : ∀ w ∈ wsX00, w ∈ lw_tbl) w h, (by decide +kernel : ∀ w ∈ wsX00, goodWord w = true) w h⟩
theorem giX1 : ∀ w ∈ wsX10, w ∈ gT := fun w h => List.mem_filter.mpr ⟨(by decide +kernel : ∀ w ∈ wsX10, w ∈ lw_tbl) w h, (by decide +kernel : ∀ w ∈ wsX10, goodWord w = true) w h⟩
theorem giX2 : ∀ w ∈ wsX20, w ∈ gT := fun w h => List.mem_filter.mpr ⟨(by decide +kernel : ∀ w ∈ wsX20, w ∈ lw_tbl) w h, (by decide +kernel : ∀ w ∈ wsX20, goodWord w = true) w h⟩
theorem giX3 : ∀ w ∈ wsX30, w ∈ gT := fun w h => List.mem_filter.mpr ⟨(by decide +kernel : ∀ w ∈ wsX30, w ∈ lw_tbl) w h, (by decide +kernel : ∀ w ∈ wsX30, goodWord w = true) w h⟩
theorem giX4 : ∀ w ∈ wsX40, w ∈ gT := fun w h => List.mem_filter.mpr ⟨(by decide +kernel : ∀ w ∈ wsX40, w ∈ lw_tbl) w h, (by decide +kernel : ∀ w ∈ wsX40, goodWord w = true) w h⟩
theorem giX5 : ∀ w ∈ wsX50, w ∈ gT := fun w h => List.mem_filter.mpr ⟨(by decide +kernel : ∀ w ∈ wsX50, w ∈ lw_tbl) w h, (by decide +kernel : ∀ w ∈ wsX50, goodWord w = true) w h⟩
theorem giX6 : ∀ w ∈ wsX60, w ∈ gT := fun w h => List.mem_filter.mpr ⟨(by decide +kernel : ∀ w ∈ wsX60, w ∈ lw_tbl) w h, (by decide +kernel : ∀ w ∈ wsX60, goodWord w = true) w h⟩
theorem giX7 : ∀ w ∈ wsX70, w ∈ gT := fun w h => List.mem_filter.mpr ⟨(by decide +kernel : ∀ w ∈ wsX70, w ∈ lw_tbl) w h, (by decide +kernel : ∀ w ∈ wsX70, goodWord w = true) w h⟩
theorem giX8 : ∀ w ∈ wsX80, w ∈ gT := fun w h => List.mem_filter.mpr ⟨(by decide +kernel : ∀ w ∈ wsX80, w ∈ lw_tbl) w h, (by decide +kernel : ∀ w ∈ wsX80, goodWord w = true) w h⟩
theorem giX9 : ∀ w ∈ wsX90, w ∈ gT := fun w h => List.mem_filter.mpr ⟨(by decide +kernel : ∀ w ∈ wsX90, w ∈ lw_tbl) w h, (by decide +kernel : ∀ w ∈ wsX90, goodWord w = true) w h⟩
theorem giX10 : ∀ w ∈ wsX100, w ∈ gT := fun w h => List.mem_filter.mpr ⟨(by decide +kernel : ∀ w ∈ wsX100, w ∈ lw_tbl) w h, (by decide +kernel : ∀ w ∈ wsX100, goodWord w = true) w h⟩
theorem giX11 : ∀ w ∈ wsX110, w ∈ gT := fun w h => List.mem_filter.mpr ⟨(by decide +kernel : ∀ w ∈ wsX110, w ∈ lw_tbl) w h, (by decide +kernel : ∀ w ∈ wsX110, goodWord w = true) w h⟩
theorem giX12 : ∀ w ∈ wsX120, w ∈ gT := fun w h => List.mem_filter.mpr ⟨(by decide +kernel : ∀ w ∈ wsX120, w ∈ lw_tbl) w h, (by decide +kernel : ∀ w ∈ wsX120, goodWord w = true) w h⟩
end
section
theorem dX0_init_0 : decode cX0_init 0 = .ok (.aload_n 0, 1) := by decide +kernel
theorem dX0_init_1 : decode cX0_init 1 = .ok (.invokespecial 1, 3) := by decide +kernel
theorem dX0_init_4 : decode cX0_init 4 = .ok (.return_, 1) := by decide +kernel
theorem dX0_swell_0 : decode cX0_swell 0 = .ok (.iconst 3, 1) := by decide +kernel
theorem dX0_swell_1 : decode cX0_swell 1 = .ok (.iload_n 1, 1) := by decide +kernel
theorem dX0_swell_2 : decode cX0_swell 2 = .ok (.imul, 1) := by decide +kernel
theorem dX0_swell_3 : decode cX0_swell 3 = .ok (.ireturn, 1) := by decide +kernel
theorem dX0_telling_0 : decode cX0_telling 0 = .ok (.aload_n 2, 1) := by decide +kernel
theorem dX0_telling_1 : decode cX0_telling 1 = .ok (.iconst 2, 1) := by decide +kernel
theorem dX0_telling_2 : decode cX0_telling 2 = .ok (.invokevirtual 7, 3) := by decide +kernel
theorem dX0_telling_5 : decode cX0_telling 5 = .ok (.aload_n 0, 1) := by decide +kernel
theorem dX0_telling_6 : decode cX0_telling 6 = .ok (.iload_n 1, 1) := by decide +kernel
theorem dX0_telling_7 : decode cX0_telling 7 = .ok (.aload_n 2, 1) := by decide +kernel
theorem dX0_telling_8 : decode cX0_telling 8 = .ok (.invokespecial 13, 3) := by decide +kernel
theorem dX0_telling_11 : decode cX0_telling 11 = .ok (.bipush 100, 2) := by decide +kernel
theorem dX0_telling_13 : decode cX0_telling 13 = .ok (.iadd, 1) := by decide +kernel
theorem dX0_telling_14 : decode cX0_telling 14 = .ok (.ireturn, 1) := by decide +kernel
theorem dX1_init_0 : decode cX1_init 0 = .ok (.aload_n 0, 1) := by decide +kernel
theorem dX1_init_1 : decode cX1_init 1 = .ok (.invokespecial 1, 3) := by decide +kernel
theorem dX1_init_4 : decode cX1_init 4 = .ok (.return_, 1) := by decide +kernel
theorem dX1_swell_0 : decode cX1_swell 0 = .ok (.aload_n 0, 1) := by decide +kernel
theorem dX1_swell_1 : decode cX1_swell 1 = .ok (.iload_n 1, 1) := by decide +kernel
theorem dX1_swell_2 : decode cX1_swell 2 = .ok (.iload_n 2, 1) := by decide +kernel
theorem dX1_swell_3 : decode cX1_swell 3 = .ok (.invokespecial 7, 3) := by decide +kernel
theorem dX1_swell_6 : decode cX1_swell 6 = .ok (.iconst 2, 1) := by decide +kernel
theorem dX1_swell_7 : decode cX1_swell 7 = .ok (.iload_n 2, 1) := by decide +kernel
theorem dX1_swell_8 : decode cX1_swell 8 = .ok (.imul, 1) := by decide +kernel
theorem dX1_swell_9 : decode cX1_swell 9 = .ok (.iadd, 1) := by decide +kernel
theorem dX1_swell_10 : decode cX1_swell 10 = .ok (.ireturn, 1) := by decide +kernel
theorem dX1_telling_0 : decode cX1_telling 0 = .ok (.aload_n 2, 1) := by decide +kernel
theorem dX1_telling_1 : decode cX1_telling 1 = .ok (.iconst 3, 1) := by decide +kernel
theorem dX1_telling_2 : decode cX1_telling 2 = .ok (.invokevirtual 11, 3) := by decide +kernel
theorem dX1_telling_5 : decode cX1_telling 5 = .ok (.aload_n 0, 1) := by decide +kernel
theorem dX1_telling_6 : decode cX1_telling 6 = .ok (.iload_n 1, 1) := by decide +kernel
theorem dX1_telling_7 : decode cX1_telling 7 = .ok (.aload_n 2, 1) := by decide +kernel
theorem dX1_telling_8 : decode cX1_telling 8 = .ok (.invokespecial 17, 3) := by decide +kernel
theorem dX1_telling_11 : decode cX1_telling 11 = .ok (.istore_n 3, 1) := by decide +kernel
theorem dX1_telling_12 : decode cX1_telling 12 = .ok (.iload_n 3, 1) := by decide +kernel
theorem dX1_telling_13 : decode cX1_telling 13 = .ok (.aload_n 0, 1) := by decide +kernel
theorem dX1_telling_14 : decode cX1_telling 14 = .ok (.iload_n 1, 1) := by decide +kernel
theorem dX1_telling_15 : decode cX1_telling 15 = .ok (.aload_n 2, 1) := by decide +kernel
theorem dX1_telling_16 : decode cX1_telling 16 = .ok (.invokevirtual 21, 3) := by decide +kernel
theorem dX1_telling_19 : decode cX1_telling 19 = .ok (.iadd, 1) := by decide +kernel
theorem dX1_telling_20 : decode cX1_telling 20 = .ok (.ireturn, 1) := by decide +kernel
theorem dX1_trodden_0 : decode cX1_trodden 0 = .ok (.aload_n 2, 1) := by decide +kernel
theorem dX1_trodden_1 : decode cX1_trodden 1 = .ok (.iconst 5, 1) := by decide +kernel
theorem dX1_trodden_2 : decode cX1_trodden 2 = .ok (.invokevirtual 11, 3) := by decide +kernel
theorem dX1_trodden_5 : decode cX1_trodden 5 = .ok (.bipush 50, 2) := by decide +kernel
theorem dX1_trodden_7 : decode cX1_trodden 7 = .ok (.ireturn, 1) := by decide +kernel
theorem dX2_init_0 : decode cX2_init 0 = .ok (.aload_n 0, 1) := by decide +kernel
theorem dX2_init_1 : decode cX2_init 1 = .ok (.invokespecial 3, 3) := by decide +kernel
theorem dX2_init_4 : decode cX2_init 4 = .ok (.aload_n 0, 1) := by decide +kernel
theorem dX2_init_5 : decode cX2_init 5 = .ok (.bipush 30, 2) := by decide +kernel
theorem dX2_init_7 : decode cX2_init 7 = .ok (.newarray .int, 2) := by decide +kernel
theorem dX2_init_9 : decode cX2_init 9 = .ok (.putfield 9, 3) := by decide +kernel
theorem dX2_init_12 : decode cX2_init 12 = .ok (.aload_n 0, 1) := by decide +kernel
theorem dX2_init_13 : decode cX2_init 13 = .ok (.aload_n 1, 1) := by decide +kernel
theorem dX2_init_14 : decode cX2_init 14 = .ok (.putfield 15, 3) := by decide +kernel
theorem dX2_init_17 : decode cX2_init 17 = .ok (.return_, 1) := by decide +kernel
theorem dX2_nightsTill_0 : decode cX2_nightsTill 0 = .ok (.aload_n 0, 1) := by decide +kernel
theorem dX2_nightsTill_1 : decode cX2_nightsTill 1 = .ok (.getfield 15, 3) := by decide +kernel
theorem dX2_nightsTill_4 : decode cX2_nightsTill 4 = .ok (.invokevirtual 19, 3) := by decide +kernel
theorem dX2_nightsTill_7 : decode cX2_nightsTill 7 = .ok (.istore 4, 2) := by decide +kernel
theorem dX2_nightsTill_9 : decode cX2_nightsTill 9 = .ok (.iload_n 2, 1) := by decide +kernel
theorem dX2_nightsTill_10 : decode cX2_nightsTill 10 = .ok (.iload 4, 2) := by decide +kernel
theorem dX2_nightsTill_12 : decode cX2_nightsTill 12 = .ok (.invokestatic 25, 3) := by decide +kernel
theorem dX2_nightsTill_15 : decode cX2_nightsTill 15 = .ok (.istore 5, 2) := by decide +kernel
theorem dX2_nightsTill_17 : decode cX2_nightsTill 17 = .ok (.iconst 0, 1) := by decide +kernel
theorem dX2_nightsTill_18 : decode cX2_nightsTill 18 = .ok (.istore 6, 2) := by decide +kernel
theorem dX2_nightsTill_20 : decode cX2_nightsTill 20 = .ok (.iload 6, 2) := by decide +kernel
theorem dX2_nightsTill_22 : decode cX2_nightsTill 22 = .ok (.iload 4, 2) := by decide +kernel
theorem dX2_nightsTill_24 : decode cX2_nightsTill 24 = .ok (.if_icmp .ge 32, 3) := by decide +kernel
theorem dX2_nightsTill_27 : decode cX2_nightsTill 27 = .ok (.aload_n 0, 1) := by decide +kernel
theorem dX2_nightsTill_28 : decode cX2_nightsTill 28 = .ok (.getfield 9, 3) := by decide +kernel
theorem dX2_nightsTill_31 : decode cX2_nightsTill 31 = .ok (.iload 6, 2) := by decide +kernel
theorem dX2_nightsTill_33 : decode cX2_nightsTill 33 = .ok (.aload_n 0, 1) := by decide +kernel
theorem dX2_nightsTill_34 : decode cX2_nightsTill 34 = .ok (.getfield 15, 3) := by decide +kernel
theorem dX2_nightsTill_37 : decode cX2_nightsTill 37 = .ok (.iload 6, 2) := by decide +kernel
theorem dX2_nightsTill_39 : decode cX2_nightsTill 39 = .ok (.iload_n 1, 1) := by decide +kernel
theorem dX2_nightsTill_40 : decode cX2_nightsTill 40 = .ok (.invokevirtual 31, 3) := by decide +kernel
theorem dX2_nightsTill_43 : decode cX2_nightsTill 43 = .ok (.bipush 32, 2) := by decide +kernel
theorem dX2_nightsTill_45 : decode cX2_nightsTill 45 = .ok (.imul, 1) := by decide +kernel
theorem dX2_nightsTill_46 : decode cX2_nightsTill 46 = .ok (.iload 6, 2) := by decide +kernel
theorem dX2_nightsTill_48 : decode cX2_nightsTill 48 = .ok (.iadd, 1) := by decide +kernel
theorem dX2_nightsTill_49 : decode cX2_nightsTill 49 = .ok (.iastore, 1) := by decide +kernel
theorem dX2_nightsTill_50 : decode cX2_nightsTill 50 = .ok (.iinc 6 1, 3) := by decide +kernel
theorem dX2_nightsTill_53 : decode cX2_nightsTill 53 = .ok (.goto (-33), 3) := by decide +kernel
theorem dX2_nightsTill_56 : decode cX2_nightsTill 56 = .ok (.iconst 0, 1) := by decide +kernel
theorem dX2_nightsTill_57 : decode cX2_nightsTill 57 = .ok (.istore 6, 2) := by decide +kernel
theorem dX2_nightsTill_59 : decode cX2_nightsTill 59 = .ok (.iload 6, 2) := by decide +kernel
theorem dX2_nightsTill_61 : decode cX2_nightsTill 61 = .ok (.sipush 500, 3) := by decide +kernel
theorem dX2_nightsTill_64 : decode cX2_nightsTill 64 = .ok (.if_icmp .gt 72, 3) := by decide +kernel
theorem dX2_nightsTill_67 : decode cX2_nightsTill 67 = .ok (.aload_n 0, 1) := by decide +kernel
theorem dX2_nightsTill_68 : decode cX2_nightsTill 68 = .ok (.iload 4, 2) := by decide +kernel
theorem dX2_nightsTill_70 : decode cX2_nightsTill 70 = .ok (.invokevirtual 34, 3) := by decide +kernel
theorem dX2_nightsTill_73 : decode cX2_nightsTill 73 = .ok (.aload_n 0, 1) := by decide +kernel
theorem dX2_nightsTill_74 : decode cX2_nightsTill 74 = .ok (.getfield 9, 3) := by decide +kernel
theorem dX2_nightsTill_77 : decode cX2_nightsTill 77 = .ok (.iload 4, 2) := by decide +kernel
theorem dX2_nightsTill_79 : decode cX2_nightsTill 79 = .ok (.iconst 1, 1) := by decide +kernel
theorem dX2_nightsTill_80 : decode cX2_nightsTill 80 = .ok (.isub, 1) := by decide +kernel
theorem dX2_nightsTill_81 : decode cX2_nightsTill 81 = .ok (.iaload, 1) := by decide +kernel
theorem dX2_nightsTill_82 : decode cX2_nightsTill 82 = .ok (.bipush 32, 2) := by decide +kernel
theorem dX2_nightsTill_84 : decode cX2_nightsTill 84 = .ok (.idiv, 1) := by decide +kernel
theorem dX2_nightsTill_85 : decode cX2_nightsTill 85 = .ok (.aload_n 0, 1) := by decide +kernel
theorem dX2_nightsTill_86 : decode cX2_nightsTill 86 = .ok (.getfield 9, 3) := by decide +kernel
theorem dX2_nightsTill_89 : decode cX2_nightsTill 89 = .ok (.iconst 0, 1) := by decide +kernel
theorem dX2_nightsTill_90 : decode cX2_nightsTill 90 = .ok (.iaload, 1) := by decide +kernel
theorem dX2_nightsTill_91 : decode cX2_nightsTill 91 = .ok (.bipush 32, 2) := by decide +kernel
theorem dX2_nightsTill_93 : decode cX2_nightsTill 93 = .ok (.idiv, 1) := by decide +kernel
theorem dX2_nightsTill_94 : decode cX2_nightsTill 94 = .ok (.isub, 1) := by decide +kernel
theorem dX2_nightsTill_95 : decode cX2_nightsTill 95 = .ok (.iload_n 3, 1) := by decide +kernel
theorem dX2_nightsTill_96 : decode cX2_nightsTill 96 = .ok (.if_icmp .gt 6, 3) := by decide +kernel
theorem dX2_nightsTill_99 : decode cX2_nightsTill 99 = .ok (.iload 6, 2) := by decide +kernel
theorem dX2_nightsTill_101 : decode cX2_nightsTill 101 = .ok (.ireturn, 1) := by decide +kernel
theorem dX2_nightsTill_102 : decode cX2_nightsTill 102 = .ok (.iconst 0, 1) := by decide +kernel
theorem dX2_nightsTill_103 : decode cX2_nightsTill 103 = .ok (.istore 7, 2) := by decide +kernel
theorem dX2_nightsTill_105 : decode cX2_nightsTill 105 = .ok (.iload 7, 2) := by decide +kernel
theorem dX2_nightsTill_107 : decode cX2_nightsTill 107 = .ok (.iload 5, 2) := by decide +kernel
theorem dX2_nightsTill_109 : decode cX2_nightsTill 109 = .ok (.if_icmp .ge 21, 3) := by decide +kernel
theorem dX2_nightsTill_112 : decode cX2_nightsTill 112 = .ok (.aload_n 0, 1) := by decide +kernel
theorem dX2_nightsTill_113 : decode cX2_nightsTill 113 = .ok (.getfield 9, 3) := by decide +kernel
theorem dX2_nightsTill_116 : decode cX2_nightsTill 116 = .ok (.iload 7, 2) := by decide +kernel
theorem dX2_nightsTill_118 : decode cX2_nightsTill 118 = .ok (.dup2, 1) := by decide +kernel
theorem dX2_nightsTill_119 : decode cX2_nightsTill 119 = .ok (.iaload, 1) := by decide +kernel
theorem dX2_nightsTill_120 : decode cX2_nightsTill 120 = .ok (.bipush 32, 2) := by decide +kernel
theorem dX2_nightsTill_122 : decode cX2_nightsTill 122 = .ok (.iadd, 1) := by decide +kernel
theorem dX2_nightsTill_123 : decode cX2_nightsTill 123 = .ok (.iastore, 1) := by decide +kernel
theorem dX2_nightsTill_124 : decode cX2_nightsTill 124 = .ok (.iinc 7 1, 3) := by decide +kernel
theorem dX2_nightsTill_127 : decode cX2_nightsTill 127 = .ok (.goto (-22), 3) := by decide +kernel
theorem dX2_nightsTill_130 : decode cX2_nightsTill 130 = .ok (.iinc 6 1, 3) := by decide +kernel
theorem dX2_nightsTill_133 : decode cX2_nightsTill 133 = .ok (.goto (-74), 3) := by decide +kernel
theorem dX2_nightsTill_136 : decode cX2_nightsTill 136 = .ok (.bipush (-9), 2) := by decide +kernel
theorem dX2_nightsTill_138 : decode cX2_nightsTill 138 = .ok (.ireturn, 1) := by decide +kernel
theorem dX2_putInOrder_0 : decode cX2_putInOrder 0 = .ok (.iconst 1, 1) := by decide +kernel
theorem dX2_putInOrder_1 : decode cX2_putInOrder 1 = .ok (.istore_n 2, 1) := by decide +kernel
theorem dX2_putInOrder_2 : decode cX2_putInOrder 2 = .ok (.iload_n 2, 1) := by decide +kernel
theorem dX2_putInOrder_3 : decode cX2_putInOrder 3 = .ok (.iload_n 1, 1) := by decide +kernel
theorem dX2_putInOrder_4 : decode cX2_putInOrder 4 = .ok (.if_icmp .ge 67, 3) := by decide +kernel
theorem dX2_putInOrder_7 : decode cX2_putInOrder 7 = .ok (.aload_n 0, 1) := by decide +kernel
theorem dX2_putInOrder_8 : decode cX2_putInOrder 8 = .ok (.getfield 9, 3) := by decide +kernel
theorem dX2_putInOrder_11 : decode cX2_putInOrder 11 = .ok (.iload_n 2, 1) := by decide +kernel
theorem dX2_putInOrder_12 : decode cX2_putInOrder 12 = .ok (.iaload, 1) := by decide +kernel
theorem dX2_putInOrder_13 : decode cX2_putInOrder 13 = .ok (.istore_n 3, 1) := by decide +kernel
theorem dX2_putInOrder_14 : decode cX2_putInOrder 14 = .ok (.iload_n 2, 1) := by decide +kernel
theorem dX2_putInOrder_15 : decode cX2_putInOrder 15 = .ok (.istore 4, 2) := by decide +kernel
theorem dX2_putInOrder_17 : decode cX2_putInOrder 17 = .ok (.iload 4, 2) := by decide +kernel
theorem dX2_putInOrder_19 : decode cX2_putInOrder 19 = .ok (.ifCond .le 38, 3) := by decide +kernel
theorem dX2_putInOrder_22 : decode cX2_putInOrder 22 = .ok (.aload_n 0, 1) := by decide +kernel
theorem dX2_putInOrder_23 : decode cX2_putInOrder 23 = .ok (.getfield 9, 3) := by decide +kernel
theorem dX2_putInOrder_26 : decode cX2_putInOrder 26 = .ok (.iload 4, 2) := by decide +kernel
theorem dX2_putInOrder_28 : decode cX2_putInOrder 28 = .ok (.iconst 1, 1) := by decide +kernel
theorem dX2_putInOrder_29 : decode cX2_putInOrder 29 = .ok (.isub, 1) := by decide +kernel
theorem dX2_putInOrder_30 : decode cX2_putInOrder 30 = .ok (.iaload, 1) := by decide +kernel
theorem dX2_putInOrder_31 : decode cX2_putInOrder 31 = .ok (.iload_n 3, 1) := by decide +kernel
theorem dX2_putInOrder_32 : decode cX2_putInOrder 32 = .ok (.if_icmp .le 25, 3) := by decide +kernel
theorem dX2_putInOrder_35 : decode cX2_putInOrder 35 = .ok (.aload_n 0, 1) := by decide +kernel
theorem dX2_putInOrder_36 : decode cX2_putInOrder 36 = .ok (.getfield 9, 3) := by decide +kernel
theorem dX2_putInOrder_39 : decode cX2_putInOrder 39 = .ok (.iload 4, 2) := by decide +kernel
theorem dX2_putInOrder_41 : decode cX2_putInOrder 41 = .ok (.aload_n 0, 1) := by decide +kernel
theorem dX2_putInOrder_42 : decode cX2_putInOrder 42 = .ok (.getfield 9, 3) := by decide +kernel
theorem dX2_putInOrder_45 : decode cX2_putInOrder 45 = .ok (.iload 4, 2) := by decide +kernel
theorem dX2_putInOrder_47 : decode cX2_putInOrder 47 = .ok (.iconst 1, 1) := by decide +kernel
theorem dX2_putInOrder_48 : decode cX2_putInOrder 48 = .ok (.isub, 1) := by decide +kernel
theorem dX2_putInOrder_49 : decode cX2_putInOrder 49 = .ok (.iaload, 1) := by decide +kernel
theorem dX2_putInOrder_50 : decode cX2_putInOrder 50 = .ok (.iastore, 1) := by decide +kernel
theorem dX2_putInOrder_51 : decode cX2_putInOrder 51 = .ok (.iinc 4 (-1), 3) := by decide +kernel
theorem dX2_putInOrder_54 : decode cX2_putInOrder 54 = .ok (.goto (-37), 3) := by decide +kernel
theorem dX2_putInOrder_57 : decode cX2_putInOrder 57 = .ok (.aload_n 0, 1) := by decide +kernel
theorem dX2_putInOrder_58 : decode cX2_putInOrder 58 = .ok (.getfield 9, 3) := by decide +kernel
theorem dX2_putInOrder_61 : decode cX2_putInOrder 61 = .ok (.iload 4, 2) := by decide +kernel
theorem dX2_putInOrder_63 : decode cX2_putInOrder 63 = .ok (.iload_n 3, 1) := by decide +kernel
theorem dX2_putInOrder_64 : decode cX2_putInOrder 64 = .ok (.iastore, 1) := by decide +kernel
theorem dX2_putInOrder_65 : decode cX2_putInOrder 65 = .ok (.iinc 2 1, 3) := by decide +kernel
theorem dX2_putInOrder_68 : decode cX2_putInOrder 68 = .ok (.goto (-66), 3) := by decide +kernel
theorem dX2_putInOrder_71 : decode cX2_putInOrder 71 = .ok (.return_, 1) := by decide +kernel
theorem dX3_init_0 : decode cX3_init 0 = .ok (.aload_n 0, 1) := by decide +kernel
theorem dX3_init_1 : decode cX3_init 1 = .ok (.invokespecial 3, 3) := by decide +kernel
theorem dX3_init_4 : decode cX3_init 4 = .ok (.aload_n 0, 1) := by decide +kernel
theorem dX3_init_5 : decode cX3_init 5 = .ok (.iconst 3, 1) := by decide +kernel
theorem dX3_init_6 : decode cX3_init 6 = .ok (.anewarray 9, 3) := by decide +kernel
theorem dX3_init_9 : decode cX3_init 9 = .ok (.dup, 1) := by decide +kernel
theorem dX3_init_10 : decode cX3_init 10 = .ok (.iconst 0, 1) := by decide +kernel
theorem dX3_init_11 : decode cX3_init 11 = .ok (.new 9, 3) := by decide +kernel
theorem dX3_init_14 : decode cX3_init 14 = .ok (.dup, 1) := by decide +kernel
theorem dX3_init_15 : decode cX3_init 15 = .ok (.invokespecial 11, 3) := by decide +kernel
theorem dX3_init_18 : decode cX3_init 18 = .ok (.aastore, 1) := by decide +kernel
theorem dX3_init_19 : decode cX3_init 19 = .ok (.dup, 1) := by decide +kernel
theorem dX3_init_20 : decode cX3_init 20 = .ok (.iconst 1, 1) := by decide +kernel
theorem dX3_init_21 : decode cX3_init 21 = .ok (.new 12, 3) := by decide +kernel
theorem dX3_init_24 : decode cX3_init 24 = .ok (.dup, 1) := by decide +kernel
theorem dX3_init_25 : decode cX3_init 25 = .ok (.invokespecial 14, 3) := by decide +kernel
theorem dX3_init_28 : decode cX3_init 28 = .ok (.aastore, 1) := by decide +kernel
theorem dX3_init_29 : decode cX3_init 29 = .ok (.dup, 1) := by decide +kernel
theorem dX3_init_30 : decode cX3_init 30 = .ok (.iconst 2, 1) := by decide +kernel
theorem dX3_init_31 : decode cX3_init 31 = .ok (.new 15, 3) := by decide +kernel
theorem dX3_init_34 : decode cX3_init 34 = .ok (.dup, 1) := by decide +kernel
theorem dX3_init_35 : decode cX3_init 35 = .ok (.invokespecial 17, 3) := by decide +kernel
theorem dX3_init_38 : decode cX3_init 38 = .ok (.aastore, 1) := by decide +kernel
theorem dX3_init_39 : decode cX3_init 39 = .ok (.putfield 18, 3) := by decide +kernel
theorem dX3_init_42 : decode cX3_init 42 = .ok (.aload_n 0, 1) := by decide +kernel
theorem dX3_init_43 : decode cX3_init 43 = .ok (.bipush 30, 2) := by decide +kernel
theorem dX3_init_45 : decode cX3_init 45 = .ok (.newarray .int, 2) := by decide +kernel
theorem dX3_init_47 : decode cX3_init 47 = .ok (.putfield 24, 3) := by decide +kernel
theorem dX3_init_50 : decode cX3_init 50 = .ok (.aload_n 0, 1) := by decide +kernel
theorem dX3_init_51 : decode cX3_init 51 = .ok (.bipush 30, 2) := by decide +kernel
theorem dX3_init_53 : decode cX3_init 53 = .ok (.newarray .int, 2) := by decide +kernel
theorem dX3_init_55 : decode cX3_init 55 = .ok (.putfield 28, 3) := by decide +kernel
theorem dX3_init_58 : decode cX3_init 58 = .ok (.aload_n 0, 1) := by decide +kernel
theorem dX3_init_59 : decode cX3_init 59 = .ok (.bipush 30, 2) := by decide +kernel
theorem dX3_init_61 : decode cX3_init 61 = .ok (.newarray .int, 2) := by decide +kernel
theorem dX3_init_63 : decode cX3_init 63 = .ok (.putfield 31, 3) := by decide +kernel
theorem dX3_init_66 : decode cX3_init 66 = .ok (.aload_n 0, 1) := by decide +kernel
theorem dX3_init_67 : decode cX3_init 67 = .ok (.bipush 30, 2) := by decide +kernel
theorem dX3_init_69 : decode cX3_init 69 = .ok (.newarray .int, 2) := by decide +kernel
theorem dX3_init_71 : decode cX3_init 71 = .ok (.putfield 34, 3) := by decide +kernel
theorem dX3_init_74 : decode cX3_init 74 = .ok (.aload_n 0, 1) := by decide +kernel
theorem dX3_init_75 : decode cX3_init 75 = .ok (.bipush 30, 2) := by decide +kernel
theorem dX3_init_77 : decode cX3_init 77 = .ok (.newarray .int, 2) := by decide +kernel
theorem dX3_init_79 : decode cX3_init 79 = .ok (.putfield 37, 3) := by decide +kernel
theorem dX3_init_82 : decode cX3_init 82 = .ok (.aload_n 0, 1) := by decide +kernel
theorem dX3_init_83 : decode cX3_init 83 = .ok (.bipush 12, 2) := by decide +kernel
theorem dX3_init_85 : decode cX3_init 85 = .ok (.newarray .int, 2) := by decide +kernel
theorem dX3_init_87 : decode cX3_init 87 = .ok (.putfield 40, 3) := by decide +kernel
theorem dX3_init_90 : decode cX3_init 90 = .ok (.aload_n 0, 1) := by decide +kernel
theorem dX3_init_91 : decode cX3_init 91 = .ok (.bipush 12, 2) := by decide +kernel
theorem dX3_init_93 : decode cX3_init 93 = .ok (.newarray .int, 2) := by decide +kernel
theorem dX3_init_95 : decode cX3_init 95 = .ok (.putfield 43, 3) := by decide +kernel
theorem dX3_init_98 : decode cX3_init 98 = .ok (.return_, 1) := by decide +kernel
theorem dX3_firstFault_0 : decode cX3_firstFault 0 = .ok (.iconst 0, 1) := by decide +kernel
theorem dX3_firstFault_1 : decode cX3_firstFault 1 = .ok (.istore_n 3, 1) := by decide +kernel
theorem dX3_firstFault_2 : decode cX3_firstFault 2 = .ok (.iconst 0, 1) := by decide +kernel
theorem dX3_firstFault_3 : decode cX3_firstFault 3 = .ok (.istore 4, 2) := by decide +kernel
theorem dX3_firstFault_5 : decode cX3_firstFault 5 = .ok (.iconst 3, 1) := by decide +kernel
theorem dX3_firstFault_6 : decode cX3_firstFault 6 = .ok (.istore 5, 2) := by decide +kernel
theorem dX3_firstFault_8 : decode cX3_firstFault 8 = .ok (.iconst 0, 1) := by decide +kernel
theorem dX3_firstFault_9 : decode cX3_firstFault 9 = .ok (.istore 6, 2) := by decide +kernel
theorem dX3_firstFault_11 : decode cX3_firstFault 11 = .ok (.iload 6, 2) := by decide +kernel
theorem dX3_firstFault_13 : decode cX3_firstFault 13 = .ok (.iload_n 2, 1) := by decide +kernel
theorem dX3_firstFault_14 : decode cX3_firstFault 14 = .ok (.if_icmp .ge 109, 3) := by decide +kernel
theorem dX3_firstFault_17 : decode cX3_firstFault 17 = .ok (.aload_n 0, 1) := by decide +kernel
theorem dX3_firstFault_18 : decode cX3_firstFault 18 = .ok (.getfield 46, 3) := by decide +kernel
theorem dX3_firstFault_21 : decode cX3_firstFault 21 = .ok (.iload_n 1, 1) := by decide +kernel
theorem dX3_firstFault_22 : decode cX3_firstFault 22 = .ok (.iload 6, 2) := by decide +kernel
theorem dX3_firstFault_24 : decode cX3_firstFault 24 = .ok (.iadd, 1) := by decide +kernel
theorem dX3_firstFault_25 : decode cX3_firstFault 25 = .ok (.iaload, 1) := by decide +kernel
theorem dX3_firstFault_26 : decode cX3_firstFault 26 = .ok (.istore 7, 2) := by decide +kernel
theorem dX3_firstFault_28 : decode cX3_firstFault 28 = .ok (.iload 6, 2) := by decide +kernel
theorem dX3_firstFault_30 : decode cX3_firstFault 30 = .ok (.iconst 3, 1) := by decide +kernel
theorem dX3_firstFault_31 : decode cX3_firstFault 31 = .ok (.if_icmp .ge 13, 3) := by decide +kernel
theorem dX3_firstFault_34 : decode cX3_firstFault 34 = .ok (.iload 6, 2) := by decide +kernel
theorem dX3_firstFault_36 : decode cX3_firstFault 36 = .ok (.iload 7, 2) := by decide +kernel
theorem dX3_firstFault_38 : decode cX3_firstFault 38 = .ok (.invokestatic 51, 3) := by decide +kernel
theorem dX3_firstFault_41 : decode cX3_firstFault 41 = .ok (.goto 27, 3) := by decide +kernel
theorem dX3_firstFault_44 : decode cX3_firstFault 44 = .ok (.iload 6, 2) := by decide +kernel
theorem dX3_firstFault_46 : decode cX3_firstFault 46 = .ok (.iload 5, 2) := by decide +kernel
theorem dX3_firstFault_48 : decode cX3_firstFault 48 = .ok (.if_icmp .ge 19, 3) := by decide +kernel
theorem dX3_firstFault_51 : decode cX3_firstFault 51 = .ok (.iload 6, 2) := by decide +kernel
theorem dX3_firstFault_53 : decode cX3_firstFault 53 = .ok (.iload 7, 2) := by decide +kernel
theorem dX3_firstFault_55 : decode cX3_firstFault 55 = .ok (.iload 4, 2) := by decide +kernel
theorem dX3_firstFault_57 : decode cX3_firstFault 57 = .ok (.invokestatic 55, 3) := by decide +kernel
theorem dX3_firstFault_60 : decode cX3_firstFault 60 = .ok (.ifCond .eq 7, 3) := by decide +kernel
theorem dX3_firstFault_63 : decode cX3_firstFault 63 = .ok (.iconst 1, 1) := by decide +kernel
theorem dX3_firstFault_64 : decode cX3_firstFault 64 = .ok (.goto 4, 3) := by decide +kernel
theorem dX3_firstFault_67 : decode cX3_firstFault 67 = .ok (.iconst 0, 1) := by decide +kernel
theorem dX3_firstFault_68 : decode cX3_firstFault 68 = .ok (.istore 8, 2) := by decide +kernel
theorem dX3_firstFault_70 : decode cX3_firstFault 70 = .ok (.iload 8, 2) := by decide +kernel
theorem dX3_firstFault_72 : decode cX3_firstFault 72 = .ok (.ifCond .ne 6, 3) := by decide +kernel
theorem dX3_firstFault_75 : decode cX3_firstFault 75 = .ok (.iload 6, 2) := by decide +kernel
theorem dX3_firstFault_77 : decode cX3_firstFault 77 = .ok (.ireturn, 1) := by decide +kernel
theorem dX3_firstFault_78 : decode cX3_firstFault 78 = .ok (.iload 6, 2) := by decide +kernel
theorem dX3_firstFault_80 : decode cX3_firstFault 80 = .ok (.iconst 1, 1) := by decide +kernel
theorem dX3_firstFault_81 : decode cX3_firstFault 81 = .ok (.if_icmp .ne 12, 3) := by decide +kernel
theorem dX3_firstFault_84 : decode cX3_firstFault 84 = .ok (.iload 7, 2) := by decide +kernel
theorem dX3_firstFault_86 : decode cX3_firstFault 86 = .ok (.bipush 48, 2) := by decide +kernel
theorem dX3_firstFault_88 : decode cX3_firstFault 88 = .ok (.isub, 1) := by decide +kernel
theorem dX3_firstFault_89 : decode cX3_firstFault 89 = .ok (.istore_n 3, 1) := by decide +kernel
theorem dX3_firstFault_90 : decode cX3_firstFault 90 = .ok (.goto 27, 3) := by decide +kernel
theorem dX3_firstFault_93 : decode cX3_firstFault 93 = .ok (.iload 6, 2) := by decide +kernel
theorem dX3_firstFault_95 : decode cX3_firstFault 95 = .ok (.iconst 2, 1) := by decide +kernel
theorem dX3_firstFault_96 : decode cX3_firstFault 96 = .ok (.if_icmp .ne 21, 3) := by decide +kernel
theorem dX3_firstFault_99 : decode cX3_firstFault 99 = .ok (.iload 7, 2) := by decide +kernel
theorem dX3_firstFault_101 : decode cX3_firstFault 101 = .ok (.bipush 48, 2) := by decide +kernel
theorem dX3_firstFault_103 : decode cX3_firstFault 103 = .ok (.isub, 1) := by decide +kernel
theorem dX3_firstFault_104 : decode cX3_firstFault 104 = .ok (.istore 4, 2) := by decide +kernel
theorem dX3_firstFault_106 : decode cX3_firstFault 106 = .ok (.iconst 3, 1) := by decide +kernel
theorem dX3_firstFault_107 : decode cX3_firstFault 107 = .ok (.iload_n 3, 1) := by decide +kernel
theorem dX3_firstFault_108 : decode cX3_firstFault 108 = .ok (.iload 4, 2) := by decide +kernel
theorem dX3_firstFault_110 : decode cX3_firstFault 110 = .ok (.invokestatic 59, 3) := by decide +kernel
theorem dX3_firstFault_113 : decode cX3_firstFault 113 = .ok (.imul, 1) := by decide +kernel
theorem dX3_firstFault_114 : decode cX3_firstFault 114 = .ok (.iadd, 1) := by decide +kernel
theorem dX3_firstFault_115 : decode cX3_firstFault 115 = .ok (.istore 5, 2) := by decide +kernel
theorem dX3_firstFault_117 : decode cX3_firstFault 117 = .ok (.iinc 6 1, 3) := by decide +kernel
theorem dX3_firstFault_120 : decode cX3_firstFault 120 = .ok (.goto (-109), 3) := by decide +kernel
theorem dX3_firstFault_123 : decode cX3_firstFault 123 = .ok (.iload_n 2, 1) := by decide +kernel
theorem dX3_firstFault_124 : decode cX3_firstFault 124 = .ok (.iload 5, 2) := by decide +kernel
theorem dX3_firstFault_126 : decode cX3_firstFault 126 = .ok (.if_icmp .ge 7, 3) := by decide +kernel
theorem dX3_firstFault_129 : decode cX3_firstFault 129 = .ok (.iload_n 2, 1) := by decide +kernel
theorem dX3_firstFault_130 : decode cX3_firstFault 130 = .ok (.goto 5, 3) := by decide +kernel
theorem dX3_firstFault_133 : decode cX3_firstFault 133 = .ok (.bipush (-9), 2) := by decide +kernel
theorem dX3_firstFault_135 : decode cX3_firstFault 135 = .ok (.ireturn, 1) := by decide +kernel
theorem dX3_fitsHead_0 : decode cX3_fitsHead 0 = .ok (.iload_n 0, 1) := by decide +kernel
theorem dX3_fitsHead_1 : decode cX3_fitsHead 1 = .ok (.ifCond .ne 15, 3) := by decide +kernel
theorem dX3_fitsHead_4 : decode cX3_fitsHead 4 = .ok (.iload_n 1, 1) := by decide +kernel
theorem dX3_fitsHead_5 : decode cX3_fitsHead 5 = .ok (.bipush 113, 2) := by decide +kernel
theorem dX3_fitsHead_7 : decode cX3_fitsHead 7 = .ok (.if_icmp .ne 7, 3) := by decide +kernel
theorem dX3_fitsHead_10 : decode cX3_fitsHead 10 = .ok (.iconst 1, 1) := by decide +kernel
theorem dX3_fitsHead_11 : decode cX3_fitsHead 11 = .ok (.goto 4, 3) := by decide +kernel
theorem dX3_fitsHead_14 : decode cX3_fitsHead 14 = .ok (.iconst 0, 1) := by decide +kernel
theorem dX3_fitsHead_15 : decode cX3_fitsHead 15 = .ok (.ireturn, 1) := by decide +kernel
theorem dX3_fitsHead_16 : decode cX3_fitsHead 16 = .ok (.iload_n 1, 1) := by decide +kernel
theorem dX3_fitsHead_17 : decode cX3_fitsHead 17 = .ok (.bipush 50, 2) := by decide +kernel
theorem dX3_fitsHead_19 : decode cX3_fitsHead 19 = .ok (.iload_n 0, 1) := by decide +kernel
theorem dX3_fitsHead_20 : decode cX3_fitsHead 20 = .ok (.iconst 1, 1) := by decide +kernel
theorem dX3_fitsHead_21 : decode cX3_fitsHead 21 = .ok (.if_icmp .ne 8, 3) := by decide +kernel
theorem dX3_fitsHead_24 : decode cX3_fitsHead 24 = .ok (.bipush 53, 2) := by decide +kernel
theorem dX3_fitsHead_26 : decode cX3_fitsHead 26 = .ok (.goto 5, 3) := by decide +kernel
theorem dX3_fitsHead_29 : decode cX3_fitsHead 29 = .ok (.bipush 54, 2) := by decide +kernel
theorem dX3_fitsHead_31 : decode cX3_fitsHead 31 = .ok (.invokestatic 63, 3) := by decide +kernel
theorem dX3_fitsHead_34 : decode cX3_fitsHead 34 = .ok (.ireturn, 1) := by decide +kernel
theorem dX3_fitsRow_0 : decode cX3_fitsRow 0 = .ok (.iload_n 0, 1) := by decide +kernel
theorem dX3_fitsRow_1 : decode cX3_fitsRow 1 = .ok (.iconst 3, 1) := by decide +kernel
theorem dX3_fitsRow_2 : decode cX3_fitsRow 2 = .ok (.isub, 1) := by decide +kernel
theorem dX3_fitsRow_3 : decode cX3_fitsRow 3 = .ok (.iload_n 2, 1) := by decide +kernel
theorem dX3_fitsRow_4 : decode cX3_fitsRow 4 = .ok (.invokestatic 59, 3) := by decide +kernel
theorem dX3_fitsRow_7 : decode cX3_fitsRow 7 = .ok (.irem, 1) := by decide +kernel
theorem dX3_fitsRow_8 : decode cX3_fitsRow 8 = .ok (.istore_n 3, 1) := by decide +kernel
theorem dX3_fitsRow_9 : decode cX3_fitsRow 9 = .ok (.iload_n 3, 1) := by decide +kernel
theorem dX3_fitsRow_10 : decode cX3_fitsRow 10 = .ok (.ifCond .ne 15, 3) := by decide +kernel
theorem dX3_fitsRow_13 : decode cX3_fitsRow 13 = .ok (.iload_n 1, 1) := by decide +kernel
theorem dX3_fitsRow_14 : decode cX3_fitsRow 14 = .ok (.bipush 59, 2) := by decide +kernel
theorem dX3_fitsRow_16 : decode cX3_fitsRow 16 = .ok (.if_icmp .ne 7, 3) := by decide +kernel
theorem dX3_fitsRow_19 : decode cX3_fitsRow 19 = .ok (.iconst 1, 1) := by decide +kernel
theorem dX3_fitsRow_20 : decode cX3_fitsRow 20 = .ok (.goto 4, 3) := by decide +kernel
theorem dX3_fitsRow_23 : decode cX3_fitsRow 23 = .ok (.iconst 0, 1) := by decide +kernel
theorem dX3_fitsRow_24 : decode cX3_fitsRow 24 = .ok (.ireturn, 1) := by decide +kernel
theorem dX3_fitsRow_25 : decode cX3_fitsRow 25 = .ok (.iload_n 3, 1) := by decide +kernel
theorem dX3_fitsRow_26 : decode cX3_fitsRow 26 = .ok (.iconst 2, 1) := by decide +kernel
theorem dX3_fitsRow_27 : decode cX3_fitsRow 27 = .ok (.irem, 1) := by decide +kernel
theorem dX3_fitsRow_28 : decode cX3_fitsRow 28 = .ok (.iconst 1, 1) := by decide +kernel
theorem dX3_fitsRow_29 : decode cX3_fitsRow 29 = .ok (.if_icmp .ne 20, 3) := by decide +kernel
theorem dX3_fitsRow_32 : decode cX3_fitsRow 32 = .ok (.iload_n 1, 1) := by decide +kernel
theorem dX3_fitsRow_33 : decode cX3_fitsRow 33 = .ok (.invokestatic 66, 3) := by decide +kernel
theorem dX3_fitsRow_36 : decode cX3_fitsRow 36 = .ok (.bipush (-9), 2) := by decide +kernel
theorem dX3_fitsRow_38 : decode cX3_fitsRow 38 = .ok (.if_icmp .eq 7, 3) := by decide +kernel
theorem dX3_fitsRow_41 : decode cX3_fitsRow 41 = .ok (.iconst 1, 1) := by decide +kernel
theorem dX3_fitsRow_42 : decode cX3_fitsRow 42 = .ok (.goto 15, 3) := by decide +kernel
theorem dX3_fitsRow_45 : decode cX3_fitsRow 45 = .ok (.iconst 0, 1) := by decide +kernel
theorem dX3_fitsRow_46 : decode cX3_fitsRow 46 = .ok (.goto 11, 3) := by decide +kernel
theorem dX3_fitsRow_49 : decode cX3_fitsRow 49 = .ok (.iload_n 1, 1) := by decide +kernel
theorem dX3_fitsRow_50 : decode cX3_fitsRow 50 = .ok (.bipush 48, 2) := by decide +kernel
theorem dX3_fitsRow_52 : decode cX3_fitsRow 52 = .ok (.bipush 57, 2) := by decide +kernel
theorem dX3_fitsRow_54 : decode cX3_fitsRow 54 = .ok (.invokestatic 63, 3) := by decide +kernel
theorem dX3_fitsRow_57 : decode cX3_fitsRow 57 = .ok (.ireturn, 1) := by decide +kernel
theorem dX3_rowLength_0 : decode cX3_rowLength 0 = .ok (.iconst 1, 1) := by decide +kernel
theorem dX3_rowLength_1 : decode cX3_rowLength 1 = .ok (.iconst 2, 1) := by decide +kernel
theorem dX3_rowLength_2 : decode cX3_rowLength 2 = .ok (.iload_n 0, 1) := by decide +kernel
theorem dX3_rowLength_3 : decode cX3_rowLength 3 = .ok (.imul, 1) := by decide +kernel
theorem dX3_rowLength_4 : decode cX3_rowLength 4 = .ok (.iadd, 1) := by decide +kernel
theorem dX3_rowLength_5 : decode cX3_rowLength 5 = .ok (.ireturn, 1) := by decide +kernel
theorem dX3_kindBy_0 : decode cX3_kindBy 0 = .ok (.iload_n 0, 1) := by decide +kernel
theorem dX3_kindBy_1 : decode cX3_kindBy 1 = .ok (.lookupswitch 41 #[(99, 37), (102, 39), (115, 35)], 35) := by decide +kernel
theorem dX3_kindBy_36 : decode cX3_kindBy 36 = .ok (.iconst 0, 1) := by decide +kernel
theorem dX3_kindBy_37 : decode cX3_kindBy 37 = .ok (.ireturn, 1) := by decide +kernel
theorem dX3_kindBy_38 : decode cX3_kindBy 38 = .ok (.iconst 1, 1) := by decide +kernel
theorem dX3_kindBy_39 : decode cX3_kindBy 39 = .ok (.ireturn, 1) := by decide +kernel
theorem dX3_kindBy_40 : decode cX3_kindBy 40 = .ok (.iconst 2, 1) := by decide +kernel
theorem dX3_kindBy_41 : decode cX3_kindBy 41 = .ok (.ireturn, 1) := by decide +kernel
theorem dX3_kindBy_42 : decode cX3_kindBy 42 = .ok (.bipush (-9), 2) := by decide +kernel
theorem dX3_kindBy_44 : decode cX3_kindBy 44 = .ok (.ireturn, 1) := by decide +kernel
theorem dX3_lay_0 : decode cX3_lay 0 = .ok (.aload_n 0, 1) := by decide +kernel
theorem dX3_lay_1 : decode cX3_lay 1 = .ok (.aload_n 1, 1) := by decide +kernel
theorem dX3_lay_2 : decode cX3_lay 2 = .ok (.getfield 46, 3) := by decide +kernel
theorem dX3_lay_5 : decode cX3_lay 5 = .ok (.iload_n 2, 1) := by decide +kernel
theorem dX3_lay_6 : decode cX3_lay 6 = .ok (.iconst 1, 1) := by decide +kernel
theorem dX3_lay_7 : decode cX3_lay 7 = .ok (.iadd, 1) := by decide +kernel
theorem dX3_lay_8 : decode cX3_lay 8 = .ok (.iaload, 1) := by decide +kernel
theorem dX3_lay_9 : decode cX3_lay 9 = .ok (.bipush 48, 2) := by decide +kernel
theorem dX3_lay_11 : decode cX3_lay 11 = .ok (.isub, 1) := by decide +kernel
theorem dX3_lay_12 : decode cX3_lay 12 = .ok (.putfield 69, 3) := by decide +kernel
theorem dX3_lay_15 : decode cX3_lay 15 = .ok (.aload_n 0, 1) := by decide +kernel
theorem dX3_lay_16 : decode cX3_lay 16 = .ok (.aload_n 1, 1) := by decide +kernel
theorem dX3_lay_17 : decode cX3_lay 17 = .ok (.getfield 46, 3) := by decide +kernel
theorem dX3_lay_20 : decode cX3_lay 20 = .ok (.iload_n 2, 1) := by decide +kernel
theorem dX3_lay_21 : decode cX3_lay 21 = .ok (.iconst 2, 1) := by decide +kernel
theorem dX3_lay_22 : decode cX3_lay 22 = .ok (.iadd, 1) := by decide +kernel
theorem dX3_lay_23 : decode cX3_lay 23 = .ok (.iaload, 1) := by decide +kernel
theorem dX3_lay_24 : decode cX3_lay 24 = .ok (.bipush 48, 2) := by decide +kernel
theorem dX3_lay_26 : decode cX3_lay 26 = .ok (.isub, 1) := by decide +kernel
theorem dX3_lay_27 : decode cX3_lay 27 = .ok (.putfield 73, 3) := by decide +kernel
theorem dX3_lay_30 : decode cX3_lay 30 = .ok (.iload_n 2, 1) := by decide +kernel
theorem dX3_lay_31 : decode cX3_lay 31 = .ok (.iconst 3, 1) := by decide +kernel
theorem dX3_lay_32 : decode cX3_lay 32 = .ok (.iadd, 1) := by decide +kernel
theorem dX3_lay_33 : decode cX3_lay 33 = .ok (.istore_n 3, 1) := by decide +kernel
theorem dX3_lay_34 : decode cX3_lay 34 = .ok (.iconst 0, 1) := by decide +kernel
theorem dX3_lay_35 : decode cX3_lay 35 = .ok (.istore 4, 2) := by decide +kernel
theorem dX3_lay_37 : decode cX3_lay 37 = .ok (.iconst 0, 1) := by decide +kernel
theorem dX3_lay_38 : decode cX3_lay 38 = .ok (.istore 5, 2) := by decide +kernel
theorem dX3_lay_40 : decode cX3_lay 40 = .ok (.iload 5, 2) := by decide +kernel
theorem dX3_lay_42 : decode cX3_lay 42 = .ok (.aload_n 0, 1) := by decide +kernel
theorem dX3_lay_43 : decode cX3_lay 43 = .ok (.getfield 69, 3) := by decide +kernel
theorem dX3_lay_46 : decode cX3_lay 46 = .ok (.if_icmp .ge 96, 3) := by decide +kernel
theorem dX3_lay_49 : decode cX3_lay 49 = .ok (.iinc 3 1, 3) := by decide +kernel
theorem dX3_lay_52 : decode cX3_lay 52 = .ok (.iconst 0, 1) := by decide +kernel
theorem dX3_lay_53 : decode cX3_lay 53 = .ok (.istore 6, 2) := by decide +kernel
theorem dX3_lay_55 : decode cX3_lay 55 = .ok (.iload 6, 2) := by decide +kernel
theorem dX3_lay_57 : decode cX3_lay 57 = .ok (.aload_n 0, 1) := by decide +kernel
theorem dX3_lay_58 : decode cX3_lay 58 = .ok (.getfield 73, 3) := by decide +kernel
theorem dX3_lay_61 : decode cX3_lay 61 = .ok (.if_icmp .ge 75, 3) := by decide +kernel
theorem dX3_lay_64 : decode cX3_lay 64 = .ok (.aload_n 0, 1) := by decide +kernel
theorem dX3_lay_65 : decode cX3_lay 65 = .ok (.getfield 24, 3) := by decide +kernel
theorem dX3_lay_68 : decode cX3_lay 68 = .ok (.iload 4, 2) := by decide +kernel
theorem dX3_lay_70 : decode cX3_lay 70 = .ok (.aload_n 1, 1) := by decide +kernel
theorem dX3_lay_71 : decode cX3_lay 71 = .ok (.getfield 46, 3) := by decide +kernel
theorem dX3_lay_74 : decode cX3_lay 74 = .ok (.iload_n 3, 1) := by decide +kernel
theorem dX3_lay_75 : decode cX3_lay 75 = .ok (.iaload, 1) := by decide +kernel
theorem dX3_lay_76 : decode cX3_lay 76 = .ok (.invokestatic 66, 3) := by decide +kernel
theorem dX3_lay_79 : decode cX3_lay 79 = .ok (.iastore, 1) := by decide +kernel
theorem dX3_lay_80 : decode cX3_lay 80 = .ok (.aload_n 0, 1) := by decide +kernel
theorem dX3_lay_81 : decode cX3_lay 81 = .ok (.getfield 28, 3) := by decide +kernel
theorem dX3_lay_84 : decode cX3_lay 84 = .ok (.iload 4, 2) := by decide +kernel
theorem dX3_lay_86 : decode cX3_lay 86 = .ok (.aload_n 1, 1) := by decide +kernel
theorem dX3_lay_87 : decode cX3_lay 87 = .ok (.getfield 46, 3) := by decide +kernel
theorem dX3_lay_90 : decode cX3_lay 90 = .ok (.iload_n 3, 1) := by decide +kernel
theorem dX3_lay_91 : decode cX3_lay 91 = .ok (.iconst 1, 1) := by decide +kernel
theorem dX3_lay_92 : decode cX3_lay 92 = .ok (.iadd, 1) := by decide +kernel
theorem dX3_lay_93 : decode cX3_lay 93 = .ok (.iaload, 1) := by decide +kernel
theorem dX3_lay_94 : decode cX3_lay 94 = .ok (.bipush 48, 2) := by decide +kernel
theorem dX3_lay_96 : decode cX3_lay 96 = .ok (.isub, 1) := by decide +kernel
theorem dX3_lay_97 : decode cX3_lay 97 = .ok (.iastore, 1) := by decide +kernel
theorem dX3_lay_98 : decode cX3_lay 98 = .ok (.aload_n 0, 1) := by decide +kernel
theorem dX3_lay_99 : decode cX3_lay 99 = .ok (.getfield 31, 3) := by decide +kernel
theorem dX3_lay_102 : decode cX3_lay 102 = .ok (.iload 4, 2) := by decide +kernel
theorem dX3_lay_104 : decode cX3_lay 104 = .ok (.iconst 0, 1) := by decide +kernel
theorem dX3_lay_105 : decode cX3_lay 105 = .ok (.iastore, 1) := by decide +kernel
theorem dX3_lay_106 : decode cX3_lay 106 = .ok (.aload_n 0, 1) := by decide +kernel
theorem dX3_lay_107 : decode cX3_lay 107 = .ok (.getfield 34, 3) := by decide +kernel
theorem dX3_lay_110 : decode cX3_lay 110 = .ok (.iload 4, 2) := by decide +kernel
theorem dX3_lay_112 : decode cX3_lay 112 = .ok (.iload 5, 2) := by decide +kernel
theorem dX3_lay_114 : decode cX3_lay 114 = .ok (.iastore, 1) := by decide +kernel
theorem dX3_lay_115 : decode cX3_lay 115 = .ok (.aload_n 0, 1) := by decide +kernel
theorem dX3_lay_116 : decode cX3_lay 116 = .ok (.getfield 37, 3) := by decide +kernel
theorem dX3_lay_119 : decode cX3_lay 119 = .ok (.iload 4, 2) := by decide +kernel
theorem dX3_lay_121 : decode cX3_lay 121 = .ok (.iload 6, 2) := by decide +kernel
theorem dX3_lay_123 : decode cX3_lay 123 = .ok (.iastore, 1) := by decide +kernel
theorem dX3_lay_124 : decode cX3_lay 124 = .ok (.iinc 3 2, 3) := by decide +kernel
theorem dX3_lay_127 : decode cX3_lay 127 = .ok (.iinc 4 1, 3) := by decide +kernel
theorem dX3_lay_130 : decode cX3_lay 130 = .ok (.iinc 6 1, 3) := by decide +kernel
theorem dX3_lay_133 : decode cX3_lay 133 = .ok (.goto (-78), 3) := by decide +kernel
theorem dX3_lay_136 : decode cX3_lay 136 = .ok (.iinc 5 1, 3) := by decide +kernel
theorem dX3_lay_139 : decode cX3_lay 139 = .ok (.goto (-99), 3) := by decide +kernel
theorem dX3_lay_142 : decode cX3_lay 142 = .ok (.iconst 0, 1) := by decide +kernel
theorem dX3_lay_143 : decode cX3_lay 143 = .ok (.istore 5, 2) := by decide +kernel
theorem dX3_lay_145 : decode cX3_lay 145 = .ok (.iload 5, 2) := by decide +kernel
theorem dX3_lay_147 : decode cX3_lay 147 = .ok (.bipush 12, 2) := by decide +kernel
theorem dX3_lay_149 : decode cX3_lay 149 = .ok (.if_icmp .ge 25, 3) := by decide +kernel
theorem dX3_lay_152 : decode cX3_lay 152 = .ok (.aload_n 0, 1) := by decide +kernel
theorem dX3_lay_153 : decode cX3_lay 153 = .ok (.getfield 40, 3) := by decide +kernel
theorem dX3_lay_156 : decode cX3_lay 156 = .ok (.iload 5, 2) := by decide +kernel
theorem dX3_lay_158 : decode cX3_lay 158 = .ok (.iconst 0, 1) := by decide +kernel
theorem dX3_lay_159 : decode cX3_lay 159 = .ok (.iastore, 1) := by decide +kernel
theorem dX3_lay_160 : decode cX3_lay 160 = .ok (.aload_n 0, 1) := by decide +kernel
theorem dX3_lay_161 : decode cX3_lay 161 = .ok (.getfield 43, 3) := by decide +kernel
theorem dX3_lay_164 : decode cX3_lay 164 = .ok (.iload 5, 2) := by decide +kernel
theorem dX3_lay_166 : decode cX3_lay 166 = .ok (.iconst 0, 1) := by decide +kernel
theorem dX3_lay_167 : decode cX3_lay 167 = .ok (.iastore, 1) := by decide +kernel
theorem dX3_lay_168 : decode cX3_lay 168 = .ok (.iinc 5 1, 3) := by decide +kernel
theorem dX3_lay_171 : decode cX3_lay 171 = .ok (.goto (-26), 3) := by decide +kernel
theorem dX3_lay_174 : decode cX3_lay 174 = .ok (.return_, 1) := by decide +kernel
theorem dX3_isBare_0 : decode cX3_isBare 0 = .ok (.aload_n 0, 1) := by decide +kernel
theorem dX3_isBare_1 : decode cX3_isBare 1 = .ok (.getfield 73, 3) := by decide +kernel
theorem dX3_isBare_4 : decode cX3_isBare 4 = .ok (.ifCond .ne 7, 3) := by decide +kernel
theorem dX3_isBare_7 : decode cX3_isBare 7 = .ok (.iconst 1, 1) := by decide +kernel
theorem dX3_isBare_8 : decode cX3_isBare 8 = .ok (.goto 4, 3) := by decide +kernel
theorem dX3_isBare_11 : decode cX3_isBare 11 = .ok (.iconst 0, 1) := by decide +kernel
theorem dX3_isBare_12 : decode cX3_isBare 12 = .ok (.ireturn, 1) := by decide +kernel
theorem dX3_stones_0 : decode cX3_stones 0 = .ok (.aload_n 0, 1) := by decide +kernel
theorem dX3_stones_1 : decode cX3_stones 1 = .ok (.getfield 69, 3) := by decide +kernel
theorem dX3_stones_4 : decode cX3_stones 4 = .ok (.aload_n 0, 1) := by decide +kernel
theorem dX3_stones_5 : decode cX3_stones 5 = .ok (.getfield 73, 3) := by decide +kernel
theorem dX3_stones_8 : decode cX3_stones 8 = .ok (.imul, 1) := by decide +kernel
theorem dX3_stones_9 : decode cX3_stones 9 = .ok (.ireturn, 1) := by decide +kernel
theorem dX3_has_0 : decode cX3_has 0 = .ok (.iload_n 1, 1) := by decide +kernel
theorem dX3_has_1 : decode cX3_has 1 = .ok (.ifCond .lt 20, 3) := by decide +kernel
theorem dX3_has_4 : decode cX3_has 4 = .ok (.iload_n 1, 1) := by decide +kernel
theorem dX3_has_5 : decode cX3_has 5 = .ok (.aload_n 0, 1) := by decide +kernel
theorem dX3_has_6 : decode cX3_has 6 = .ok (.getfield 69, 3) := by decide +kernel
theorem dX3_has_9 : decode cX3_has 9 = .ok (.aload_n 0, 1) := by decide +kernel
theorem dX3_has_10 : decode cX3_has 10 = .ok (.getfield 73, 3) := by decide +kernel
theorem dX3_has_13 : decode cX3_has 13 = .ok (.imul, 1) := by decide +kernel
theorem dX3_has_14 : decode cX3_has 14 = .ok (.if_icmp .ge 7, 3) := by decide +kernel
theorem dX3_has_17 : decode cX3_has 17 = .ok (.iconst 1, 1) := by decide +kernel
theorem dX3_has_18 : decode cX3_has 18 = .ok (.goto 4, 3) := by decide +kernel
theorem dX3_has_21 : decode cX3_has 21 = .ok (.iconst 0, 1) := by decide +kernel
theorem dX3_has_22 : decode cX3_has 22 = .ok (.ireturn, 1) := by decide +kernel
theorem dX3_hasStall_0 : decode cX3_hasStall 0 = .ok (.aload_n 0, 1) := by decide +kernel
theorem dX3_hasStall_1 : decode cX3_hasStall 1 = .ok (.iload_n 1, 1) := by decide +kernel
theorem dX3_hasStall_2 : decode cX3_hasStall 2 = .ok (.invokevirtual 76, 3) := by decide +kernel
theorem dX3_hasStall_5 : decode cX3_hasStall 5 = .ok (.ifCond .eq 37, 3) := by decide +kernel
theorem dX3_hasStall_8 : decode cX3_hasStall 8 = .ok (.aload_n 0, 1) := by decide +kernel
theorem dX3_hasStall_9 : decode cX3_hasStall 9 = .ok (.getfield 34, 3) := by decide +kernel
theorem dX3_hasStall_12 : decode cX3_hasStall 12 = .ok (.iload_n 1, 1) := by decide +kernel
theorem dX3_hasStall_13 : decode cX3_hasStall 13 = .ok (.iaload, 1) := by decide +kernel
theorem dX3_hasStall_14 : decode cX3_hasStall 14 = .ok (.aload_n 0, 1) := by decide +kernel
theorem dX3_hasStall_15 : decode cX3_hasStall 15 = .ok (.getfield 69, 3) := by decide +kernel
theorem dX3_hasStall_18 : decode cX3_hasStall 18 = .ok (.iconst 1, 1) := by decide +kernel
theorem dX3_hasStall_19 : decode cX3_hasStall 19 = .ok (.isub, 1) := by decide +kernel
theorem dX3_hasStall_20 : decode cX3_hasStall 20 = .ok (.if_icmp .ge 22, 3) := by decide +kernel
theorem dX3_hasStall_23 : decode cX3_hasStall 23 = .ok (.aload_n 0, 1) := by decide +kernel
theorem dX3_hasStall_24 : decode cX3_hasStall 24 = .ok (.getfield 37, 3) := by decide +kernel
theorem dX3_hasStall_27 : decode cX3_hasStall 27 = .ok (.iload_n 1, 1) := by decide +kernel
theorem dX3_hasStall_28 : decode cX3_hasStall 28 = .ok (.iaload, 1) := by decide +kernel
theorem dX3_hasStall_29 : decode cX3_hasStall 29 = .ok (.aload_n 0, 1) := by decide +kernel
theorem dX3_hasStall_30 : decode cX3_hasStall 30 = .ok (.getfield 73, 3) := by decide +kernel
theorem dX3_hasStall_33 : decode cX3_hasStall 33 = .ok (.iconst 1, 1) := by decide +kernel
theorem dX3_hasStall_34 : decode cX3_hasStall 34 = .ok (.isub, 1) := by decide +kernel
theorem dX3_hasStall_35 : decode cX3_hasStall 35 = .ok (.if_icmp .ge 7, 3) := by decide +kernel
theorem dX3_hasStall_38 : decode cX3_hasStall 38 = .ok (.iconst 1, 1) := by decide +kernel
theorem dX3_hasStall_39 : decode cX3_hasStall 39 = .ok (.goto 4, 3) := by decide +kernel
theorem dX3_hasStall_42 : decode cX3_hasStall 42 = .ok (.iconst 0, 1) := by decide +kernel
theorem dX3_hasStall_43 : decode cX3_hasStall 43 = .ok (.ireturn, 1) := by decide +kernel
theorem dX3_isAtEdge_0 : decode cX3_isAtEdge 0 = .ok (.aload_n 0, 1) := by decide +kernel
theorem dX3_isAtEdge_1 : decode cX3_isAtEdge 1 = .ok (.getfield 34, 3) := by decide +kernel
theorem dX3_isAtEdge_4 : decode cX3_isAtEdge 4 = .ok (.iload_n 1, 1) := by decide +kernel
theorem dX3_isAtEdge_5 : decode cX3_isAtEdge 5 = .ok (.iaload, 1) := by decide +kernel
theorem dX3_isAtEdge_6 : decode cX3_isAtEdge 6 = .ok (.ifCond .eq 42, 3) := by decide +kernel
theorem dX3_isAtEdge_9 : decode cX3_isAtEdge 9 = .ok (.aload_n 0, 1) := by decide +kernel
theorem dX3_isAtEdge_10 : decode cX3_isAtEdge 10 = .ok (.getfield 34, 3) := by decide +kernel
theorem dX3_isAtEdge_13 : decode cX3_isAtEdge 13 = .ok (.iload_n 1, 1) := by decide +kernel
theorem dX3_isAtEdge_14 : decode cX3_isAtEdge 14 = .ok (.iaload, 1) := by decide +kernel
theorem dX3_isAtEdge_15 : decode cX3_isAtEdge 15 = .ok (.aload_n 0, 1) := by decide +kernel
theorem dX3_isAtEdge_16 : decode cX3_isAtEdge 16 = .ok (.getfield 69, 3) := by decide +kernel
theorem dX3_isAtEdge_19 : decode cX3_isAtEdge 19 = .ok (.iconst 1, 1) := by decide +kernel
theorem dX3_isAtEdge_20 : decode cX3_isAtEdge 20 = .ok (.isub, 1) := by decide +kernel
theorem dX3_isAtEdge_21 : decode cX3_isAtEdge 21 = .ok (.if_icmp .eq 27, 3) := by decide +kernel
theorem dX3_isAtEdge_24 : decode cX3_isAtEdge 24 = .ok (.aload_n 0, 1) := by decide +kernel
theorem dX3_isAtEdge_25 : decode cX3_isAtEdge 25 = .ok (.getfield 37, 3) := by decide +kernel
theorem dX3_isAtEdge_28 : decode cX3_isAtEdge 28 = .ok (.iload_n 1, 1) := by decide +kernel
theorem dX3_isAtEdge_29 : decode cX3_isAtEdge 29 = .ok (.iaload, 1) := by decide +kernel
theorem dX3_isAtEdge_30 : decode cX3_isAtEdge 30 = .ok (.ifCond .eq 18, 3) := by decide +kernel
theorem dX3_isAtEdge_33 : decode cX3_isAtEdge 33 = .ok (.aload_n 0, 1) := by decide +kernel
theorem dX3_isAtEdge_34 : decode cX3_isAtEdge 34 = .ok (.getfield 37, 3) := by decide +kernel
theorem dX3_isAtEdge_37 : decode cX3_isAtEdge 37 = .ok (.iload_n 1, 1) := by decide +kernel
theorem dX3_isAtEdge_38 : decode cX3_isAtEdge 38 = .ok (.iaload, 1) := by decide +kernel
theorem dX3_isAtEdge_39 : decode cX3_isAtEdge 39 = .ok (.aload_n 0, 1) := by decide +kernel
theorem dX3_isAtEdge_40 : decode cX3_isAtEdge 40 = .ok (.getfield 73, 3) := by decide +kernel
theorem dX3_isAtEdge_43 : decode cX3_isAtEdge 43 = .ok (.iconst 1, 1) := by decide +kernel
theorem dX3_isAtEdge_44 : decode cX3_isAtEdge 44 = .ok (.isub, 1) := by decide +kernel
theorem dX3_isAtEdge_45 : decode cX3_isAtEdge 45 = .ok (.if_icmp .ne 7, 3) := by decide +kernel
theorem dX3_isAtEdge_48 : decode cX3_isAtEdge 48 = .ok (.iconst 1, 1) := by decide +kernel
theorem dX3_isAtEdge_49 : decode cX3_isAtEdge 49 = .ok (.goto 4, 3) := by decide +kernel
theorem dX3_isAtEdge_52 : decode cX3_isAtEdge 52 = .ok (.iconst 0, 1) := by decide +kernel
theorem dX3_isAtEdge_53 : decode cX3_isAtEdge 53 = .ok (.ireturn, 1) := by decide +kernel
theorem dX3_neighbour_0 : decode cX3_neighbour 0 = .ok (.iload_n 2, 1) := by decide +kernel
theorem dX3_neighbour_1 : decode cX3_neighbour 1 = .ok (.tableswitch 90 0 2 #[27, 48, 66], 27) := by decide +kernel
theorem dX3_neighbour_28 : decode cX3_neighbour 28 = .ok (.aload_n 0, 1) := by decide +kernel
theorem dX3_neighbour_29 : decode cX3_neighbour 29 = .ok (.getfield 34, 3) := by decide +kernel
theorem dX3_neighbour_32 : decode cX3_neighbour 32 = .ok (.iload_n 1, 1) := by decide +kernel
theorem dX3_neighbour_33 : decode cX3_neighbour 33 = .ok (.iaload, 1) := by decide +kernel
theorem dX3_neighbour_34 : decode cX3_neighbour 34 = .ok (.ifCond .le 12, 3) := by decide +kernel
theorem dX3_neighbour_37 : decode cX3_neighbour 37 = .ok (.iload_n 1, 1) := by decide +kernel
theorem dX3_neighbour_38 : decode cX3_neighbour 38 = .ok (.aload_n 0, 1) := by decide +kernel
theorem dX3_neighbour_39 : decode cX3_neighbour 39 = .ok (.getfield 73, 3) := by decide +kernel
theorem dX3_neighbour_42 : decode cX3_neighbour 42 = .ok (.isub, 1) := by decide +kernel
theorem dX3_neighbour_43 : decode cX3_neighbour 43 = .ok (.goto 5, 3) := by decide +kernel
theorem dX3_neighbour_46 : decode cX3_neighbour 46 = .ok (.bipush (-9), 2) := by decide +kernel
theorem dX3_neighbour_48 : decode cX3_neighbour 48 = .ok (.ireturn, 1) := by decide +kernel
theorem dX3_neighbour_49 : decode cX3_neighbour 49 = .ok (.aload_n 0, 1) := by decide +kernel
theorem dX3_neighbour_50 : decode cX3_neighbour 50 = .ok (.getfield 37, 3) := by decide +kernel
theorem dX3_neighbour_53 : decode cX3_neighbour 53 = .ok (.iload_n 1, 1) := by decide +kernel
theorem dX3_neighbour_54 : decode cX3_neighbour 54 = .ok (.iaload, 1) := by decide +kernel
theorem dX3_neighbour_55 : decode cX3_neighbour 55 = .ok (.ifCond .le 9, 3) := by decide +kernel
theorem dX3_neighbour_58 : decode cX3_neighbour 58 = .ok (.iload_n 1, 1) := by decide +kernel
theorem dX3_neighbour_59 : decode cX3_neighbour 59 = .ok (.iconst 1, 1) := by decide +kernel
theorem dX3_neighbour_60 : decode cX3_neighbour 60 = .ok (.isub, 1) := by decide +kernel
theorem dX3_neighbour_61 : decode cX3_neighbour 61 = .ok (.goto 5, 3) := by decide +kernel
theorem dX3_neighbour_64 : decode cX3_neighbour 64 = .ok (.bipush (-9), 2) := by decide +kernel
theorem dX3_neighbour_66 : decode cX3_neighbour 66 = .ok (.ireturn, 1) := by decide +kernel
theorem dX3_neighbour_67 : decode cX3_neighbour 67 = .ok (.aload_n 0, 1) := by decide +kernel
theorem dX3_neighbour_68 : decode cX3_neighbour 68 = .ok (.getfield 37, 3) := by decide +kernel
theorem dX3_neighbour_71 : decode cX3_neighbour 71 = .ok (.iload_n 1, 1) := by decide +kernel
theorem dX3_neighbour_72 : decode cX3_neighbour 72 = .ok (.iaload, 1) := by decide +kernel
theorem dX3_neighbour_73 : decode cX3_neighbour 73 = .ok (.aload_n 0, 1) := by decide +kernel
theorem dX3_neighbour_74 : decode cX3_neighbour 74 = .ok (.getfield 73, 3) := by decide +kernel
theorem dX3_neighbour_77 : decode cX3_neighbour 77 = .ok (.iconst 1, 1) := by decide +kernel
theorem dX3_neighbour_78 : decode cX3_neighbour 78 = .ok (.isub, 1) := by decide +kernel
theorem dX3_neighbour_79 : decode cX3_neighbour 79 = .ok (.if_icmp .ge 9, 3) := by decide +kernel
theorem dX3_neighbour_82 : decode cX3_neighbour 82 = .ok (.iload_n 1, 1) := by decide +kernel
theorem dX3_neighbour_83 : decode cX3_neighbour 83 = .ok (.iconst 1, 1) := by decide +kernel
theorem dX3_neighbour_84 : decode cX3_neighbour 84 = .ok (.iadd, 1) := by decide +kernel
theorem dX3_neighbour_85 : decode cX3_neighbour 85 = .ok (.goto 5, 3) := by decide +kernel
theorem dX3_neighbour_88 : decode cX3_neighbour 88 = .ok (.bipush (-9), 2) := by decide +kernel
theorem dX3_neighbour_90 : decode cX3_neighbour 90 = .ok (.ireturn, 1) := by decide +kernel
theorem dX3_neighbour_91 : decode cX3_neighbour 91 = .ok (.aload_n 0, 1) := by decide +kernel
theorem dX3_neighbour_92 : decode cX3_neighbour 92 = .ok (.getfield 34, 3) := by decide +kernel
theorem dX3_neighbour_95 : decode cX3_neighbour 95 = .ok (.iload_n 1, 1) := by decide +kernel
theorem dX3_neighbour_96 : decode cX3_neighbour 96 = .ok (.iaload, 1) := by decide +kernel
theorem dX3_neighbour_97 : decode cX3_neighbour 97 = .ok (.aload_n 0, 1) := by decide +kernel
theorem dX3_neighbour_98 : decode cX3_neighbour 98 = .ok (.getfield 69, 3) := by decide +kernel
theorem dX3_neighbour_101 : decode cX3_neighbour 101 = .ok (.iconst 1, 1) := by decide +kernel
theorem dX3_neighbour_102 : decode cX3_neighbour 102 = .ok (.isub, 1) := by decide +kernel
theorem dX3_neighbour_103 : decode cX3_neighbour 103 = .ok (.if_icmp .ge 12, 3) := by decide +kernel
theorem dX3_neighbour_106 : decode cX3_neighbour 106 = .ok (.iload_n 1, 1) := by decide +kernel
theorem dX3_neighbour_107 : decode cX3_neighbour 107 = .ok (.aload_n 0, 1) := by decide +kernel
theorem dX3_neighbour_108 : decode cX3_neighbour 108 = .ok (.getfield 73, 3) := by decide +kernel
theorem dX3_neighbour_111 : decode cX3_neighbour 111 = .ok (.iadd, 1) := by decide +kernel
theorem dX3_neighbour_112 : decode cX3_neighbour 112 = .ok (.goto 5, 3) := by decide +kernel
theorem dX3_neighbour_115 : decode cX3_neighbour 115 = .ok (.bipush (-9), 2) := by decide +kernel
theorem dX3_neighbour_117 : decode cX3_neighbour 117 = .ok (.ireturn, 1) := by decide +kernel
theorem dX3_areBeside_0 : decode cX3_areBeside 0 = .ok (.aload_n 0, 1) := by decide +kernel
theorem dX3_areBeside_1 : decode cX3_areBeside 1 = .ok (.getfield 34, 3) := by decide +kernel
theorem dX3_areBeside_4 : decode cX3_areBeside 4 = .ok (.iload_n 1, 1) := by decide +kernel
theorem dX3_areBeside_5 : decode cX3_areBeside 5 = .ok (.iaload, 1) := by decide +kernel
theorem dX3_areBeside_6 : decode cX3_areBeside 6 = .ok (.aload_n 0, 1) := by decide +kernel
theorem dX3_areBeside_7 : decode cX3_areBeside 7 = .ok (.getfield 34, 3) := by decide +kernel
theorem dX3_areBeside_10 : decode cX3_areBeside 10 = .ok (.iload_n 2, 1) := by decide +kernel
theorem dX3_areBeside_11 : decode cX3_areBeside 11 = .ok (.iaload, 1) := by decide +kernel
theorem dX3_areBeside_12 : decode cX3_areBeside 12 = .ok (.isub, 1) := by decide +kernel
theorem dX3_areBeside_13 : decode cX3_areBeside 13 = .ok (.invokestatic 80, 3) := by decide +kernel
theorem dX3_areBeside_16 : decode cX3_areBeside 16 = .ok (.aload_n 0, 1) := by decide +kernel
theorem dX3_areBeside_17 : decode cX3_areBeside 17 = .ok (.getfield 37, 3) := by decide +kernel
theorem dX3_areBeside_20 : decode cX3_areBeside 20 = .ok (.iload_n 1, 1) := by decide +kernel
theorem dX3_areBeside_21 : decode cX3_areBeside 21 = .ok (.iaload, 1) := by decide +kernel
theorem dX3_areBeside_22 : decode cX3_areBeside 22 = .ok (.aload_n 0, 1) := by decide +kernel
theorem dX3_areBeside_23 : decode cX3_areBeside 23 = .ok (.getfield 37, 3) := by decide +kernel
theorem dX3_areBeside_26 : decode cX3_areBeside 26 = .ok (.iload_n 2, 1) := by decide +kernel
theorem dX3_areBeside_27 : decode cX3_areBeside 27 = .ok (.iaload, 1) := by decide +kernel
theorem dX3_areBeside_28 : decode cX3_areBeside 28 = .ok (.isub, 1) := by decide +kernel
theorem dX3_areBeside_29 : decode cX3_areBeside 29 = .ok (.invokestatic 80, 3) := by decide +kernel
theorem dX3_areBeside_32 : decode cX3_areBeside 32 = .ok (.iadd, 1) := by decide +kernel
theorem dX3_areBeside_33 : decode cX3_areBeside 33 = .ok (.iconst 1, 1) := by decide +kernel
theorem dX3_areBeside_34 : decode cX3_areBeside 34 = .ok (.if_icmp .ne 7, 3) := by decide +kernel
theorem dX3_areBeside_37 : decode cX3_areBeside 37 = .ok (.iconst 1, 1) := by decide +kernel
theorem dX3_areBeside_38 : decode cX3_areBeside 38 = .ok (.goto 4, 3) := by decide +kernel
theorem dX3_areBeside_41 : decode cX3_areBeside 41 = .ok (.iconst 0, 1) := by decide +kernel
theorem dX3_areBeside_42 : decode cX3_areBeside 42 = .ok (.ireturn, 1) := by decide +kernel
theorem dX3_bodyOf_0 : decode cX3_bodyOf 0 = .ok (.aload_n 0, 1) := by decide +kernel
theorem dX3_bodyOf_1 : decode cX3_bodyOf 1 = .ok (.getfield 18, 3) := by decide +kernel
theorem dX3_bodyOf_4 : decode cX3_bodyOf 4 = .ok (.aload_n 0, 1) := by decide +kernel
theorem dX3_bodyOf_5 : decode cX3_bodyOf 5 = .ok (.getfield 24, 3) := by decide +kernel
theorem dX3_bodyOf_8 : decode cX3_bodyOf 8 = .ok (.iload_n 1, 1) := by decide +kernel
theorem dX3_bodyOf_9 : decode cX3_bodyOf 9 = .ok (.iaload, 1) := by decide +kernel
theorem dX3_bodyOf_10 : decode cX3_bodyOf 10 = .ok (.aaload, 1) := by decide +kernel
theorem dX3_bodyOf_11 : decode cX3_bodyOf 11 = .ok (.areturn, 1) := by decide +kernel
theorem dX3_heightOf_0 : decode cX3_heightOf 0 = .ok (.aload_n 0, 1) := by decide +kernel
theorem dX3_heightOf_1 : decode cX3_heightOf 1 = .ok (.aload_n 0, 1) := by decide +kernel
theorem dX3_heightOf_2 : decode cX3_heightOf 2 = .ok (.getfield 24, 3) := by decide +kernel
theorem dX3_heightOf_5 : decode cX3_heightOf 5 = .ok (.iload_n 1, 1) := by decide +kernel
theorem dX3_heightOf_6 : decode cX3_heightOf 6 = .ok (.iaload, 1) := by decide +kernel
theorem dX3_heightOf_7 : decode cX3_heightOf 7 = .ok (.iload_n 1, 1) := by decide +kernel
theorem dX3_heightOf_8 : decode cX3_heightOf 8 = .ok (.iload_n 2, 1) := by decide +kernel
theorem dX3_heightOf_9 : decode cX3_heightOf 9 = .ok (.invokevirtual 85, 3) := by decide +kernel
theorem dX3_heightOf_12 : decode cX3_heightOf 12 = .ok (.ireturn, 1) := by decide +kernel
theorem dX3_heightAs_0 : decode cX3_heightAs 0 = .ok (.bipush 10, 2) := by decide +kernel
theorem dX3_heightAs_2 : decode cX3_heightAs 2 = .ok (.aload_n 0, 1) := by decide +kernel
theorem dX3_heightAs_3 : decode cX3_heightAs 3 = .ok (.getfield 28, 3) := by decide +kernel
theorem dX3_heightAs_6 : decode cX3_heightAs 6 = .ok (.iload_n 2, 1) := by decide +kernel
theorem dX3_heightAs_7 : decode cX3_heightAs 7 = .ok (.iaload, 1) := by decide +kernel
theorem dX3_heightAs_8 : decode cX3_heightAs 8 = .ok (.imul, 1) := by decide +kernel
theorem dX3_heightAs_9 : decode cX3_heightAs 9 = .ok (.aload_n 0, 1) := by decide +kernel
theorem dX3_heightAs_10 : decode cX3_heightAs 10 = .ok (.getfield 31, 3) := by decide +kernel
theorem dX3_heightAs_13 : decode cX3_heightAs 13 = .ok (.iload_n 2, 1) := by decide +kernel
theorem dX3_heightAs_14 : decode cX3_heightAs 14 = .ok (.iaload, 1) := by decide +kernel
theorem dX3_heightAs_15 : decode cX3_heightAs 15 = .ok (.iadd, 1) := by decide +kernel
theorem dX3_heightAs_16 : decode cX3_heightAs 16 = .ok (.aload_n 0, 1) := by decide +kernel
theorem dX3_heightAs_17 : decode cX3_heightAs 17 = .ok (.getfield 18, 3) := by decide +kernel
theorem dX3_heightAs_20 : decode cX3_heightAs 20 = .ok (.iload_n 1, 1) := by decide +kernel
theorem dX3_heightAs_21 : decode cX3_heightAs 21 = .ok (.aaload, 1) := by decide +kernel
theorem dX3_heightAs_22 : decode cX3_heightAs 22 = .ok (.aload_n 0, 1) := by decide +kernel
theorem dX3_heightAs_23 : decode cX3_heightAs 23 = .ok (.getfield 40, 3) := by decide +kernel
theorem dX3_heightAs_26 : decode cX3_heightAs 26 = .ok (.iload_n 3, 1) := by decide +kernel
theorem dX3_heightAs_27 : decode cX3_heightAs 27 = .ok (.iaload, 1) := by decide +kernel
theorem dX3_heightAs_28 : decode cX3_heightAs 28 = .ok (.aload_n 0, 1) := by decide +kernel
theorem dX3_heightAs_29 : decode cX3_heightAs 29 = .ok (.getfield 43, 3) := by decide +kernel
theorem dX3_heightAs_32 : decode cX3_heightAs 32 = .ok (.iload_n 3, 1) := by decide +kernel
theorem dX3_heightAs_33 : decode cX3_heightAs 33 = .ok (.iaload, 1) := by decide +kernel
theorem dX3_heightAs_34 : decode cX3_heightAs 34 = .ok (.invokevirtual 89, 3) := by decide +kernel
theorem dX3_heightAs_37 : decode cX3_heightAs 37 = .ok (.iadd, 1) := by decide +kernel
theorem dX3_heightAs_38 : decode cX3_heightAs 38 = .ok (.ireturn, 1) := by decide +kernel
theorem dX3_writeHeights_0 : decode cX3_writeHeights 0 = .ok (.iconst 0, 1) := by decide +kernel
theorem dX3_writeHeights_1 : decode cX3_writeHeights 1 = .ok (.istore_n 3, 1) := by decide +kernel
theorem dX3_writeHeights_2 : decode cX3_writeHeights 2 = .ok (.iload_n 3, 1) := by decide +kernel
theorem dX3_writeHeights_3 : decode cX3_writeHeights 3 = .ok (.aload_n 0, 1) := by decide +kernel
theorem dX3_writeHeights_4 : decode cX3_writeHeights 4 = .ok (.invokevirtual 93, 3) := by decide +kernel
theorem dX3_writeHeights_7 : decode cX3_writeHeights 7 = .ok (.if_icmp .ge 18, 3) := by decide +kernel
theorem dX3_writeHeights_10 : decode cX3_writeHeights 10 = .ok (.aload_n 2, 1) := by decide +kernel
theorem dX3_writeHeights_11 : decode cX3_writeHeights 11 = .ok (.iload_n 3, 1) := by decide +kernel
theorem dX3_writeHeights_12 : decode cX3_writeHeights 12 = .ok (.aload_n 0, 1) := by decide +kernel
theorem dX3_writeHeights_13 : decode cX3_writeHeights 13 = .ok (.iload_n 3, 1) := by decide +kernel
theorem dX3_writeHeights_14 : decode cX3_writeHeights 14 = .ok (.iload_n 1, 1) := by decide +kernel
theorem dX3_writeHeights_15 : decode cX3_writeHeights 15 = .ok (.invokevirtual 97, 3) := by decide +kernel
theorem dX3_writeHeights_18 : decode cX3_writeHeights 18 = .ok (.iastore, 1) := by decide +kernel
theorem dX3_writeHeights_19 : decode cX3_writeHeights 19 = .ok (.iinc 3 1, 3) := by decide +kernel
theorem dX3_writeHeights_22 : decode cX3_writeHeights 22 = .ok (.goto (-20), 3) := by decide +kernel
theorem dX3_writeHeights_25 : decode cX3_writeHeights 25 = .ok (.return_, 1) := by decide +kernel
theorem dX3_highestMonth_0 : decode cX3_highestMonth 0 = .ok (.iconst 0, 1) := by decide +kernel
theorem dX3_highestMonth_1 : decode cX3_highestMonth 1 = .ok (.istore_n 2, 1) := by decide +kernel
theorem dX3_highestMonth_2 : decode cX3_highestMonth 2 = .ok (.iconst 1, 1) := by decide +kernel
theorem dX3_highestMonth_3 : decode cX3_highestMonth 3 = .ok (.istore_n 3, 1) := by decide +kernel
theorem dX3_highestMonth_4 : decode cX3_highestMonth 4 = .ok (.iload_n 3, 1) := by decide +kernel
theorem dX3_highestMonth_5 : decode cX3_highestMonth 5 = .ok (.bipush 12, 2) := by decide +kernel
theorem dX3_highestMonth_7 : decode cX3_highestMonth 7 = .ok (.if_icmp .ge 26, 3) := by decide +kernel
theorem dX3_highestMonth_10 : decode cX3_highestMonth 10 = .ok (.aload_n 0, 1) := by decide +kernel
theorem dX3_highestMonth_11 : decode cX3_highestMonth 11 = .ok (.iload_n 1, 1) := by decide +kernel
theorem dX3_highestMonth_12 : decode cX3_highestMonth 12 = .ok (.iload_n 3, 1) := by decide +kernel
theorem dX3_highestMonth_13 : decode cX3_highestMonth 13 = .ok (.invokevirtual 97, 3) := by decide +kernel
theorem dX3_highestMonth_16 : decode cX3_highestMonth 16 = .ok (.aload_n 0, 1) := by decide +kernel
theorem dX3_highestMonth_17 : decode cX3_highestMonth 17 = .ok (.iload_n 1, 1) := by decide +kernel
theorem dX3_highestMonth_18 : decode cX3_highestMonth 18 = .ok (.iload_n 2, 1) := by decide +kernel
theorem dX3_highestMonth_19 : decode cX3_highestMonth 19 = .ok (.invokevirtual 97, 3) := by decide +kernel
theorem dX3_highestMonth_22 : decode cX3_highestMonth 22 = .ok (.if_icmp .le 5, 3) := by decide +kernel
theorem dX3_highestMonth_25 : decode cX3_highestMonth 25 = .ok (.iload_n 3, 1) := by decide +kernel
theorem dX3_highestMonth_26 : decode cX3_highestMonth 26 = .ok (.istore_n 2, 1) := by decide +kernel
theorem dX3_highestMonth_27 : decode cX3_highestMonth 27 = .ok (.iinc 3 1, 3) := by decide +kernel
theorem dX3_highestMonth_30 : decode cX3_highestMonth 30 = .ok (.goto (-26), 3) := by decide +kernel
theorem dX3_highestMonth_33 : decode cX3_highestMonth 33 = .ok (.iload_n 2, 1) := by decide +kernel
theorem dX3_highestMonth_34 : decode cX3_highestMonth 34 = .ok (.ireturn, 1) := by decide +kernel
theorem dX3_lowestMonth_0 : decode cX3_lowestMonth 0 = .ok (.iconst 0, 1) := by decide +kernel
theorem dX3_lowestMonth_1 : decode cX3_lowestMonth 1 = .ok (.istore_n 2, 1) := by decide +kernel
theorem dX3_lowestMonth_2 : decode cX3_lowestMonth 2 = .ok (.iconst 1, 1) := by decide +kernel
theorem dX3_lowestMonth_3 : decode cX3_lowestMonth 3 = .ok (.istore_n 3, 1) := by decide +kernel
theorem dX3_lowestMonth_4 : decode cX3_lowestMonth 4 = .ok (.iload_n 3, 1) := by decide +kernel
theorem dX3_lowestMonth_5 : decode cX3_lowestMonth 5 = .ok (.bipush 12, 2) := by decide +kernel
theorem dX3_lowestMonth_7 : decode cX3_lowestMonth 7 = .ok (.if_icmp .ge 26, 3) := by decide +kernel
theorem dX3_lowestMonth_10 : decode cX3_lowestMonth 10 = .ok (.aload_n 0, 1) := by decide +kernel
theorem dX3_lowestMonth_11 : decode cX3_lowestMonth 11 = .ok (.iload_n 1, 1) := by decide +kernel
theorem dX3_lowestMonth_12 : decode cX3_lowestMonth 12 = .ok (.iload_n 3, 1) := by decide +kernel
theorem dX3_lowestMonth_13 : decode cX3_lowestMonth 13 = .ok (.invokevirtual 97, 3) := by decide +kernel
theorem dX3_lowestMonth_16 : decode cX3_lowestMonth 16 = .ok (.aload_n 0, 1) := by decide +kernel
theorem dX3_lowestMonth_17 : decode cX3_lowestMonth 17 = .ok (.iload_n 1, 1) := by decide +kernel
theorem dX3_lowestMonth_18 : decode cX3_lowestMonth 18 = .ok (.iload_n 2, 1) := by decide +kernel
theorem dX3_lowestMonth_19 : decode cX3_lowestMonth 19 = .ok (.invokevirtual 97, 3) := by decide +kernel
theorem dX3_lowestMonth_22 : decode cX3_lowestMonth 22 = .ok (.if_icmp .ge 5, 3) := by decide +kernel
theorem dX3_lowestMonth_25 : decode cX3_lowestMonth 25 = .ok (.iload_n 3, 1) := by decide +kernel
theorem dX3_lowestMonth_26 : decode cX3_lowestMonth 26 = .ok (.istore_n 2, 1) := by decide +kernel
theorem dX3_lowestMonth_27 : decode cX3_lowestMonth 27 = .ok (.iinc 3 1, 3) := by decide +kernel
theorem dX3_lowestMonth_30 : decode cX3_lowestMonth 30 = .ok (.goto (-26), 3) := by decide +kernel
theorem dX3_lowestMonth_33 : decode cX3_lowestMonth 33 = .ok (.iload_n 2, 1) := by decide +kernel
theorem dX3_lowestMonth_34 : decode cX3_lowestMonth 34 = .ok (.ireturn, 1) := by decide +kernel
theorem dX4_init_0 : decode cX4_init 0 = .ok (.aload_n 0, 1) := by decide +kernel
theorem dX4_init_1 : decode cX4_init 1 = .ok (.invokespecial 3, 3) := by decide +kernel
theorem dX4_init_4 : decode cX4_init 4 = .ok (.aload_n 0, 1) := by decide +kernel
theorem dX4_init_5 : decode cX4_init 5 = .ok (.bipush 30, 2) := by decide +kernel
theorem dX4_init_7 : decode cX4_init 7 = .ok (.newarray .int, 2) := by decide +kernel
theorem dX4_init_9 : decode cX4_init 9 = .ok (.putfield 9, 3) := by decide +kernel
theorem dX4_init_12 : decode cX4_init 12 = .ok (.aload_n 0, 1) := by decide +kernel
theorem dX4_init_13 : decode cX4_init 13 = .ok (.bipush 30, 2) := by decide +kernel
theorem dX4_init_15 : decode cX4_init 15 = .ok (.newarray .int, 2) := by decide +kernel
theorem dX4_init_17 : decode cX4_init 17 = .ok (.putfield 15, 3) := by decide +kernel
theorem dX4_init_20 : decode cX4_init 20 = .ok (.aload_n 0, 1) := by decide +kernel
theorem dX4_init_21 : decode cX4_init 21 = .ok (.aload_n 1, 1) := by decide +kernel
theorem dX4_init_22 : decode cX4_init 22 = .ok (.putfield 18, 3) := by decide +kernel
theorem dX4_init_25 : decode cX4_init 25 = .ok (.return_, 1) := by decide +kernel
theorem dX4_measure_0 : decode cX4_measure 0 = .ok (.aload_n 0, 1) := by decide +kernel
theorem dX4_measure_1 : decode cX4_measure 1 = .ok (.getfield 18, 3) := by decide +kernel
theorem dX4_measure_4 : decode cX4_measure 4 = .ok (.iload_n 1, 1) := by decide +kernel
theorem dX4_measure_5 : decode cX4_measure 5 = .ok (.aload_n 0, 1) := by decide +kernel
theorem dX4_measure_6 : decode cX4_measure 6 = .ok (.getfield 9, 3) := by decide +kernel
theorem dX4_measure_9 : decode cX4_measure 9 = .ok (.invokevirtual 22, 3) := by decide +kernel
theorem dX4_measure_12 : decode cX4_measure 12 = .ok (.return_, 1) := by decide +kernel
theorem dX4_wedgesAt_0 : decode cX4_wedgesAt 0 = .ok (.iload_n 1, 1) := by decide +kernel
theorem dX4_wedgesAt_1 : decode cX4_wedgesAt 1 = .ok (.aload_n 0, 1) := by decide +kernel
theorem dX4_wedgesAt_2 : decode cX4_wedgesAt 2 = .ok (.getfield 18, 3) := by decide +kernel
theorem dX4_wedgesAt_5 : decode cX4_wedgesAt 5 = .ok (.getfield 28, 3) := by decide +kernel
theorem dX4_wedgesAt_8 : decode cX4_wedgesAt 8 = .ok (.iadd, 1) := by decide +kernel
theorem dX4_wedgesAt_9 : decode cX4_wedgesAt 9 = .ok (.istore_n 2, 1) := by decide +kernel
theorem dX4_wedgesAt_10 : decode cX4_wedgesAt 10 = .ok (.aload_n 0, 1) := by decide +kernel
theorem dX4_wedgesAt_11 : decode cX4_wedgesAt 11 = .ok (.getfield 9, 3) := by decide +kernel
theorem dX4_wedgesAt_14 : decode cX4_wedgesAt 14 = .ok (.iload_n 1, 1) := by decide +kernel
theorem dX4_wedgesAt_15 : decode cX4_wedgesAt 15 = .ok (.iaload, 1) := by decide +kernel
theorem dX4_wedgesAt_16 : decode cX4_wedgesAt 16 = .ok (.aload_n 0, 1) := by decide +kernel
theorem dX4_wedgesAt_17 : decode cX4_wedgesAt 17 = .ok (.getfield 9, 3) := by decide +kernel
theorem dX4_wedgesAt_20 : decode cX4_wedgesAt 20 = .ok (.iload_n 1, 1) := by decide +kernel
theorem dX4_wedgesAt_21 : decode cX4_wedgesAt 21 = .ok (.iconst 1, 1) := by decide +kernel
theorem dX4_wedgesAt_22 : decode cX4_wedgesAt 22 = .ok (.iadd, 1) := by decide +kernel
theorem dX4_wedgesAt_23 : decode cX4_wedgesAt 23 = .ok (.iaload, 1) := by decide +kernel
theorem dX4_wedgesAt_24 : decode cX4_wedgesAt 24 = .ok (.invokestatic 32, 3) := by decide +kernel
theorem dX4_wedgesAt_27 : decode cX4_wedgesAt 27 = .ok (.istore_n 3, 1) := by decide +kernel
theorem dX4_wedgesAt_28 : decode cX4_wedgesAt 28 = .ok (.aload_n 0, 1) := by decide +kernel
theorem dX4_wedgesAt_29 : decode cX4_wedgesAt 29 = .ok (.getfield 9, 3) := by decide +kernel
theorem dX4_wedgesAt_32 : decode cX4_wedgesAt 32 = .ok (.iload_n 2, 1) := by decide +kernel
theorem dX4_wedgesAt_33 : decode cX4_wedgesAt 33 = .ok (.iaload, 1) := by decide +kernel
theorem dX4_wedgesAt_34 : decode cX4_wedgesAt 34 = .ok (.aload_n 0, 1) := by decide +kernel
theorem dX4_wedgesAt_35 : decode cX4_wedgesAt 35 = .ok (.getfield 9, 3) := by decide +kernel
theorem dX4_wedgesAt_38 : decode cX4_wedgesAt 38 = .ok (.iload_n 2, 1) := by decide +kernel
theorem dX4_wedgesAt_39 : decode cX4_wedgesAt 39 = .ok (.iconst 1, 1) := by decide +kernel
theorem dX4_wedgesAt_40 : decode cX4_wedgesAt 40 = .ok (.iadd, 1) := by decide +kernel
theorem dX4_wedgesAt_41 : decode cX4_wedgesAt 41 = .ok (.iaload, 1) := by decide +kernel
theorem dX4_wedgesAt_42 : decode cX4_wedgesAt 42 = .ok (.invokestatic 32, 3) := by decide +kernel
theorem dX4_wedgesAt_45 : decode cX4_wedgesAt 45 = .ok (.istore 4, 2) := by decide +kernel
theorem dX4_wedgesAt_47 : decode cX4_wedgesAt 47 = .ok (.aload_n 0, 1) := by decide +kernel
theorem dX4_wedgesAt_48 : decode cX4_wedgesAt 48 = .ok (.getfield 9, 3) := by decide +kernel
theorem dX4_wedgesAt_51 : decode cX4_wedgesAt 51 = .ok (.iload_n 1, 1) := by decide +kernel
theorem dX4_wedgesAt_52 : decode cX4_wedgesAt 52 = .ok (.iaload, 1) := by decide +kernel
theorem dX4_wedgesAt_53 : decode cX4_wedgesAt 53 = .ok (.aload_n 0, 1) := by decide +kernel
theorem dX4_wedgesAt_54 : decode cX4_wedgesAt 54 = .ok (.getfield 9, 3) := by decide +kernel
theorem dX4_wedgesAt_57 : decode cX4_wedgesAt 57 = .ok (.iload_n 1, 1) := by decide +kernel
theorem dX4_wedgesAt_58 : decode cX4_wedgesAt 58 = .ok (.iconst 1, 1) := by decide +kernel
theorem dX4_wedgesAt_59 : decode cX4_wedgesAt 59 = .ok (.iadd, 1) := by decide +kernel
theorem dX4_wedgesAt_60 : decode cX4_wedgesAt 60 = .ok (.iaload, 1) := by decide +kernel
theorem dX4_wedgesAt_61 : decode cX4_wedgesAt 61 = .ok (.iadd, 1) := by decide +kernel
theorem dX4_wedgesAt_62 : decode cX4_wedgesAt 62 = .ok (.aload_n 0, 1) := by decide +kernel
theorem dX4_wedgesAt_63 : decode cX4_wedgesAt 63 = .ok (.getfield 9, 3) := by decide +kernel
theorem dX4_wedgesAt_66 : decode cX4_wedgesAt 66 = .ok (.iload_n 2, 1) := by decide +kernel
theorem dX4_wedgesAt_67 : decode cX4_wedgesAt 67 = .ok (.iaload, 1) := by decide +kernel
theorem dX4_wedgesAt_68 : decode cX4_wedgesAt 68 = .ok (.iadd, 1) := by decide +kernel
theorem dX4_wedgesAt_69 : decode cX4_wedgesAt 69 = .ok (.aload_n 0, 1) := by decide +kernel
theorem dX4_wedgesAt_70 : decode cX4_wedgesAt 70 = .ok (.getfield 9, 3) := by decide +kernel
theorem dX4_wedgesAt_73 : decode cX4_wedgesAt 73 = .ok (.iload_n 2, 1) := by decide +kernel
theorem dX4_wedgesAt_74 : decode cX4_wedgesAt 74 = .ok (.iconst 1, 1) := by decide +kernel
theorem dX4_wedgesAt_75 : decode cX4_wedgesAt 75 = .ok (.iadd, 1) := by decide +kernel
theorem dX4_wedgesAt_76 : decode cX4_wedgesAt 76 = .ok (.iaload, 1) := by decide +kernel
theorem dX4_wedgesAt_77 : decode cX4_wedgesAt 77 = .ok (.iadd, 1) := by decide +kernel
theorem dX4_wedgesAt_78 : decode cX4_wedgesAt 78 = .ok (.istore 5, 2) := by decide +kernel
theorem dX4_wedgesAt_80 : decode cX4_wedgesAt 80 = .ok (.iconst 4, 1) := by decide +kernel
theorem dX4_wedgesAt_81 : decode cX4_wedgesAt 81 = .ok (.iload_n 3, 1) := by decide +kernel
theorem dX4_wedgesAt_82 : decode cX4_wedgesAt 82 = .ok (.iload 4, 2) := by decide +kernel
theorem dX4_wedgesAt_84 : decode cX4_wedgesAt 84 = .ok (.invokestatic 32, 3) := by decide +kernel
theorem dX4_wedgesAt_87 : decode cX4_wedgesAt 87 = .ok (.imul, 1) := by decide +kernel
theorem dX4_wedgesAt_88 : decode cX4_wedgesAt 88 = .ok (.iload 5, 2) := by decide +kernel
theorem dX4_wedgesAt_90 : decode cX4_wedgesAt 90 = .ok (.isub, 1) := by decide +kernel
theorem dX4_wedgesAt_91 : decode cX4_wedgesAt 91 = .ok (.ireturn, 1) := by decide +kernel
theorem dX4_bestPlace_0 : decode cX4_bestPlace 0 = .ok (.iconst 0, 1) := by decide +kernel
theorem dX4_bestPlace_1 : decode cX4_bestPlace 1 = .ok (.istore_n 1, 1) := by decide +kernel
theorem dX4_bestPlace_2 : decode cX4_bestPlace 2 = .ok (.iconst 1, 1) := by decide +kernel
theorem dX4_bestPlace_3 : decode cX4_bestPlace 3 = .ok (.istore_n 2, 1) := by decide +kernel
theorem dX4_bestPlace_4 : decode cX4_bestPlace 4 = .ok (.iload_n 2, 1) := by decide +kernel
theorem dX4_bestPlace_5 : decode cX4_bestPlace 5 = .ok (.aload_n 0, 1) := by decide +kernel
theorem dX4_bestPlace_6 : decode cX4_bestPlace 6 = .ok (.getfield 18, 3) := by decide +kernel
theorem dX4_bestPlace_9 : decode cX4_bestPlace 9 = .ok (.invokevirtual 38, 3) := by decide +kernel
theorem dX4_bestPlace_12 : decode cX4_bestPlace 12 = .ok (.if_icmp .ge 35, 3) := by decide +kernel
theorem dX4_bestPlace_15 : decode cX4_bestPlace 15 = .ok (.aload_n 0, 1) := by decide +kernel
theorem dX4_bestPlace_16 : decode cX4_bestPlace 16 = .ok (.getfield 18, 3) := by decide +kernel
theorem dX4_bestPlace_19 : decode cX4_bestPlace 19 = .ok (.iload_n 2, 1) := by decide +kernel
theorem dX4_bestPlace_20 : decode cX4_bestPlace 20 = .ok (.invokevirtual 42, 3) := by decide +kernel
theorem dX4_bestPlace_23 : decode cX4_bestPlace 23 = .ok (.ifCond .eq 18, 3) := by decide +kernel
theorem dX4_bestPlace_26 : decode cX4_bestPlace 26 = .ok (.aload_n 0, 1) := by decide +kernel
theorem dX4_bestPlace_27 : decode cX4_bestPlace 27 = .ok (.iload_n 2, 1) := by decide +kernel
theorem dX4_bestPlace_28 : decode cX4_bestPlace 28 = .ok (.invokevirtual 46, 3) := by decide +kernel
theorem dX4_bestPlace_31 : decode cX4_bestPlace 31 = .ok (.aload_n 0, 1) := by decide +kernel
theorem dX4_bestPlace_32 : decode cX4_bestPlace 32 = .ok (.iload_n 1, 1) := by decide +kernel
theorem dX4_bestPlace_33 : decode cX4_bestPlace 33 = .ok (.invokevirtual 46, 3) := by decide +kernel
theorem dX4_bestPlace_36 : decode cX4_bestPlace 36 = .ok (.if_icmp .ge 5, 3) := by decide +kernel
theorem dX4_bestPlace_39 : decode cX4_bestPlace 39 = .ok (.iload_n 2, 1) := by decide +kernel
theorem dX4_bestPlace_40 : decode cX4_bestPlace 40 = .ok (.istore_n 1, 1) := by decide +kernel
theorem dX4_bestPlace_41 : decode cX4_bestPlace 41 = .ok (.iinc 2 1, 3) := by decide +kernel
theorem dX4_bestPlace_44 : decode cX4_bestPlace 44 = .ok (.goto (-40), 3) := by decide +kernel
theorem dX4_bestPlace_47 : decode cX4_bestPlace 47 = .ok (.iload_n 1, 1) := by decide +kernel
theorem dX4_bestPlace_48 : decode cX4_bestPlace 48 = .ok (.ireturn, 1) := by decide +kernel
theorem dX4_findPair_0 : decode cX4_findPair 0 = .ok (.aload_n 0, 1) := by decide +kernel
theorem dX4_findPair_1 : decode cX4_findPair 1 = .ok (.bipush (-9), 2) := by decide +kernel
theorem dX4_findPair_3 : decode cX4_findPair 3 = .ok (.putfield 50, 3) := by decide +kernel
theorem dX4_findPair_6 : decode cX4_findPair 6 = .ok (.aload_n 0, 1) := by decide +kernel
theorem dX4_findPair_7 : decode cX4_findPair 7 = .ok (.bipush (-9), 2) := by decide +kernel
theorem dX4_findPair_9 : decode cX4_findPair 9 = .ok (.putfield 53, 3) := by decide +kernel
theorem dX4_findPair_12 : decode cX4_findPair 12 = .ok (.aload_n 0, 1) := by decide +kernel
theorem dX4_findPair_13 : decode cX4_findPair 13 = .ok (.bipush (-9), 2) := by decide +kernel
theorem dX4_findPair_15 : decode cX4_findPair 15 = .ok (.putfield 56, 3) := by decide +kernel
theorem dX4_findPair_18 : decode cX4_findPair 18 = .ok (.iconst 0, 1) := by decide +kernel
theorem dX4_findPair_19 : decode cX4_findPair 19 = .ok (.istore_n 1, 1) := by decide +kernel
theorem dX4_findPair_20 : decode cX4_findPair 20 = .ok (.iload_n 1, 1) := by decide +kernel
theorem dX4_findPair_21 : decode cX4_findPair 21 = .ok (.aload_n 0, 1) := by decide +kernel
theorem dX4_findPair_22 : decode cX4_findPair 22 = .ok (.getfield 18, 3) := by decide +kernel
theorem dX4_findPair_25 : decode cX4_findPair 25 = .ok (.invokevirtual 38, 3) := by decide +kernel
theorem dX4_findPair_28 : decode cX4_findPair 28 = .ok (.if_icmp .ge 36, 3) := by decide +kernel
theorem dX4_findPair_31 : decode cX4_findPair 31 = .ok (.aload_n 0, 1) := by decide +kernel
theorem dX4_findPair_32 : decode cX4_findPair 32 = .ok (.getfield 15, 3) := by decide +kernel
theorem dX4_findPair_35 : decode cX4_findPair 35 = .ok (.iload_n 1, 1) := by decide +kernel
theorem dX4_findPair_36 : decode cX4_findPair 36 = .ok (.aload_n 0, 1) := by decide +kernel
theorem dX4_findPair_37 : decode cX4_findPair 37 = .ok (.getfield 18, 3) := by decide +kernel
theorem dX4_findPair_40 : decode cX4_findPair 40 = .ok (.iload_n 1, 1) := by decide +kernel
theorem dX4_findPair_41 : decode cX4_findPair 41 = .ok (.invokevirtual 42, 3) := by decide +kernel
theorem dX4_findPair_44 : decode cX4_findPair 44 = .ok (.ifCond .eq 11, 3) := by decide +kernel
theorem dX4_findPair_47 : decode cX4_findPair 47 = .ok (.aload_n 0, 1) := by decide +kernel
theorem dX4_findPair_48 : decode cX4_findPair 48 = .ok (.iload_n 1, 1) := by decide +kernel
theorem dX4_findPair_49 : decode cX4_findPair 49 = .ok (.invokevirtual 46, 3) := by decide +kernel
theorem dX4_findPair_52 : decode cX4_findPair 52 = .ok (.goto 5, 3) := by decide +kernel
theorem dX4_findPair_55 : decode cX4_findPair 55 = .ok (.bipush (-9), 2) := by decide +kernel
theorem dX4_findPair_57 : decode cX4_findPair 57 = .ok (.iastore, 1) := by decide +kernel
theorem dX4_findPair_58 : decode cX4_findPair 58 = .ok (.iinc 1 1, 3) := by decide +kernel
theorem dX4_findPair_61 : decode cX4_findPair 61 = .ok (.goto (-41), 3) := by decide +kernel
theorem dX4_findPair_64 : decode cX4_findPair 64 = .ok (.iconst 0, 1) := by decide +kernel
theorem dX4_findPair_65 : decode cX4_findPair 65 = .ok (.istore_n 1, 1) := by decide +kernel
theorem dX4_findPair_66 : decode cX4_findPair 66 = .ok (.iload_n 1, 1) := by decide +kernel
theorem dX4_findPair_67 : decode cX4_findPair 67 = .ok (.aload_n 0, 1) := by decide +kernel
theorem dX4_findPair_68 : decode cX4_findPair 68 = .ok (.getfield 18, 3) := by decide +kernel
theorem dX4_findPair_71 : decode cX4_findPair 71 = .ok (.invokevirtual 38, 3) := by decide +kernel
theorem dX4_findPair_74 : decode cX4_findPair 74 = .ok (.if_icmp .ge 80, 3) := by decide +kernel
theorem dX4_findPair_77 : decode cX4_findPair 77 = .ok (.iload_n 1, 1) := by decide +kernel
theorem dX4_findPair_78 : decode cX4_findPair 78 = .ok (.iconst 1, 1) := by decide +kernel
theorem dX4_findPair_79 : decode cX4_findPair 79 = .ok (.iadd, 1) := by decide +kernel
theorem dX4_findPair_80 : decode cX4_findPair 80 = .ok (.istore_n 2, 1) := by decide +kernel
theorem dX4_findPair_81 : decode cX4_findPair 81 = .ok (.iload_n 2, 1) := by decide +kernel
theorem dX4_findPair_82 : decode cX4_findPair 82 = .ok (.aload_n 0, 1) := by decide +kernel
theorem dX4_findPair_83 : decode cX4_findPair 83 = .ok (.getfield 18, 3) := by decide +kernel
theorem dX4_findPair_86 : decode cX4_findPair 86 = .ok (.invokevirtual 38, 3) := by decide +kernel
theorem dX4_findPair_89 : decode cX4_findPair 89 = .ok (.if_icmp .ge 59, 3) := by decide +kernel
theorem dX4_findPair_92 : decode cX4_findPair 92 = .ok (.aload_n 0, 1) := by decide +kernel
theorem dX4_findPair_93 : decode cX4_findPair 93 = .ok (.getfield 15, 3) := by decide +kernel
theorem dX4_findPair_96 : decode cX4_findPair 96 = .ok (.iload_n 1, 1) := by decide +kernel
theorem dX4_findPair_97 : decode cX4_findPair 97 = .ok (.iaload, 1) := by decide +kernel
theorem dX4_findPair_98 : decode cX4_findPair 98 = .ok (.bipush (-9), 2) := by decide +kernel
theorem dX4_findPair_100 : decode cX4_findPair 100 = .ok (.if_icmp .eq 42, 3) := by decide +kernel
theorem dX4_findPair_103 : decode cX4_findPair 103 = .ok (.aload_n 0, 1) := by decide +kernel
theorem dX4_findPair_104 : decode cX4_findPair 104 = .ok (.getfield 15, 3) := by decide +kernel
theorem dX4_findPair_107 : decode cX4_findPair 107 = .ok (.iload_n 2, 1) := by decide +kernel
theorem dX4_findPair_108 : decode cX4_findPair 108 = .ok (.iaload, 1) := by decide +kernel
theorem dX4_findPair_109 : decode cX4_findPair 109 = .ok (.bipush (-9), 2) := by decide +kernel
theorem dX4_findPair_111 : decode cX4_findPair 111 = .ok (.if_icmp .eq 31, 3) := by decide +kernel
theorem dX4_findPair_114 : decode cX4_findPair 114 = .ok (.aload_n 0, 1) := by decide +kernel
theorem dX4_findPair_115 : decode cX4_findPair 115 = .ok (.iload_n 1, 1) := by decide +kernel
theorem dX4_findPair_116 : decode cX4_findPair 116 = .ok (.iload_n 2, 1) := by decide +kernel
theorem dX4_findPair_117 : decode cX4_findPair 117 = .ok (.invokevirtual 59, 3) := by decide +kernel
theorem dX4_findPair_120 : decode cX4_findPair 120 = .ok (.ifCond .eq 22, 3) := by decide +kernel
theorem dX4_findPair_123 : decode cX4_findPair 123 = .ok (.aload_n 0, 1) := by decide +kernel
theorem dX4_findPair_124 : decode cX4_findPair 124 = .ok (.iload_n 1, 1) := by decide +kernel
theorem dX4_findPair_125 : decode cX4_findPair 125 = .ok (.iload_n 2, 1) := by decide +kernel
theorem dX4_findPair_126 : decode cX4_findPair 126 = .ok (.aload_n 0, 1) := by decide +kernel
theorem dX4_findPair_127 : decode cX4_findPair 127 = .ok (.getfield 15, 3) := by decide +kernel
theorem dX4_findPair_130 : decode cX4_findPair 130 = .ok (.iload_n 1, 1) := by decide +kernel
theorem dX4_findPair_131 : decode cX4_findPair 131 = .ok (.iaload, 1) := by decide +kernel
theorem dX4_findPair_132 : decode cX4_findPair 132 = .ok (.aload_n 0, 1) := by decide +kernel
theorem dX4_findPair_133 : decode cX4_findPair 133 = .ok (.getfield 15, 3) := by decide +kernel
theorem dX4_findPair_136 : decode cX4_findPair 136 = .ok (.iload_n 2, 1) := by decide +kernel
theorem dX4_findPair_137 : decode cX4_findPair 137 = .ok (.iaload, 1) := by decide +kernel
theorem dX4_findPair_138 : decode cX4_findPair 138 = .ok (.iadd, 1) := by decide +kernel
theorem dX4_findPair_139 : decode cX4_findPair 139 = .ok (.invokevirtual 63, 3) := by decide +kernel
theorem dX4_findPair_142 : decode cX4_findPair 142 = .ok (.iinc 2 1, 3) := by decide +kernel
theorem dX4_findPair_145 : decode cX4_findPair 145 = .ok (.goto (-64), 3) := by decide +kernel
theorem dX4_findPair_148 : decode cX4_findPair 148 = .ok (.iinc 1 1, 3) := by decide +kernel
theorem dX4_findPair_151 : decode cX4_findPair 151 = .ok (.goto (-85), 3) := by decide +kernel
theorem dX4_findPair_154 : decode cX4_findPair 154 = .ok (.return_, 1) := by decide +kernel
theorem dX4_areClear_0 : decode cX4_areClear 0 = .ok (.aload_n 0, 1) := by decide +kernel
theorem dX4_areClear_1 : decode cX4_areClear 1 = .ok (.getfield 18, 3) := by decide +kernel
theorem dX4_areClear_4 : decode cX4_areClear 4 = .ok (.getfield 67, 3) := by decide +kernel
theorem dX4_areClear_7 : decode cX4_areClear 7 = .ok (.iload_n 1, 1) := by decide +kernel
theorem dX4_areClear_8 : decode cX4_areClear 8 = .ok (.iaload, 1) := by decide +kernel
theorem dX4_areClear_9 : decode cX4_areClear 9 = .ok (.aload_n 0, 1) := by decide +kernel
theorem dX4_areClear_10 : decode cX4_areClear 10 = .ok (.getfield 18, 3) := by decide +kernel
theorem dX4_areClear_13 : decode cX4_areClear 13 = .ok (.getfield 67, 3) := by decide +kernel
theorem dX4_areClear_16 : decode cX4_areClear 16 = .ok (.iload_n 2, 1) := by decide +kernel
theorem dX4_areClear_17 : decode cX4_areClear 17 = .ok (.iaload, 1) := by decide +kernel
theorem dX4_areClear_18 : decode cX4_areClear 18 = .ok (.isub, 1) := by decide +kernel
theorem dX4_areClear_19 : decode cX4_areClear 19 = .ok (.invokestatic 70, 3) := by decide +kernel
theorem dX4_areClear_22 : decode cX4_areClear 22 = .ok (.iconst 1, 1) := by decide +kernel
theorem dX4_areClear_23 : decode cX4_areClear 23 = .ok (.if_icmp .gt 29, 3) := by decide +kernel
theorem dX4_areClear_26 : decode cX4_areClear 26 = .ok (.aload_n 0, 1) := by decide +kernel
theorem dX4_areClear_27 : decode cX4_areClear 27 = .ok (.getfield 18, 3) := by decide +kernel
theorem dX4_areClear_30 : decode cX4_areClear 30 = .ok (.getfield 73, 3) := by decide +kernel
theorem dX4_areClear_33 : decode cX4_areClear 33 = .ok (.iload_n 1, 1) := by decide +kernel
theorem dX4_areClear_34 : decode cX4_areClear 34 = .ok (.iaload, 1) := by decide +kernel
theorem dX4_areClear_35 : decode cX4_areClear 35 = .ok (.aload_n 0, 1) := by decide +kernel
theorem dX4_areClear_36 : decode cX4_areClear 36 = .ok (.getfield 18, 3) := by decide +kernel
theorem dX4_areClear_39 : decode cX4_areClear 39 = .ok (.getfield 73, 3) := by decide +kernel
theorem dX4_areClear_42 : decode cX4_areClear 42 = .ok (.iload_n 2, 1) := by decide +kernel
theorem dX4_areClear_43 : decode cX4_areClear 43 = .ok (.iaload, 1) := by decide +kernel
theorem dX4_areClear_44 : decode cX4_areClear 44 = .ok (.isub, 1) := by decide +kernel
theorem dX4_areClear_45 : decode cX4_areClear 45 = .ok (.invokestatic 70, 3) := by decide +kernel
theorem dX4_areClear_48 : decode cX4_areClear 48 = .ok (.iconst 1, 1) := by decide +kernel
theorem dX4_areClear_49 : decode cX4_areClear 49 = .ok (.if_icmp .le 7, 3) := by decide +kernel
theorem dX4_areClear_52 : decode cX4_areClear 52 = .ok (.iconst 1, 1) := by decide +kernel
theorem dX4_areClear_53 : decode cX4_areClear 53 = .ok (.goto 4, 3) := by decide +kernel
theorem dX4_areClear_56 : decode cX4_areClear 56 = .ok (.iconst 0, 1) := by decide +kernel
theorem dX4_areClear_57 : decode cX4_areClear 57 = .ok (.ireturn, 1) := by decide +kernel
theorem dX4_takePair_0 : decode cX4_takePair 0 = .ok (.aload_n 0, 1) := by decide +kernel
theorem dX4_takePair_1 : decode cX4_takePair 1 = .ok (.getfield 56, 3) := by decide +kernel
theorem dX4_takePair_4 : decode cX4_takePair 4 = .ok (.bipush (-9), 2) := by decide +kernel
theorem dX4_takePair_6 : decode cX4_takePair 6 = .ok (.if_icmp .eq 11, 3) := by decide +kernel
theorem dX4_takePair_9 : decode cX4_takePair 9 = .ok (.iload_n 3, 1) := by decide +kernel
theorem dX4_takePair_10 : decode cX4_takePair 10 = .ok (.aload_n 0, 1) := by decide +kernel
theorem dX4_takePair_11 : decode cX4_takePair 11 = .ok (.getfield 56, 3) := by decide +kernel
theorem dX4_takePair_14 : decode cX4_takePair 14 = .ok (.if_icmp .ge 18, 3) := by decide +kernel
theorem dX4_takePair_17 : decode cX4_takePair 17 = .ok (.aload_n 0, 1) := by decide +kernel
theorem dX4_takePair_18 : decode cX4_takePair 18 = .ok (.iload_n 1, 1) := by decide +kernel
theorem dX4_takePair_19 : decode cX4_takePair 19 = .ok (.putfield 50, 3) := by decide +kernel
theorem dX4_takePair_22 : decode cX4_takePair 22 = .ok (.aload_n 0, 1) := by decide +kernel
theorem dX4_takePair_23 : decode cX4_takePair 23 = .ok (.iload_n 2, 1) := by decide +kernel
theorem dX4_takePair_24 : decode cX4_takePair 24 = .ok (.putfield 53, 3) := by decide +kernel
theorem dX4_takePair_27 : decode cX4_takePair 27 = .ok (.aload_n 0, 1) := by decide +kernel
theorem dX4_takePair_28 : decode cX4_takePair 28 = .ok (.iload_n 3, 1) := by decide +kernel
theorem dX4_takePair_29 : decode cX4_takePair 29 = .ok (.putfield 56, 3) := by decide +kernel
theorem dX4_takePair_32 : decode cX4_takePair 32 = .ok (.return_, 1) := by decide +kernel
theorem dX4_findOval_0 : decode cX4_findOval 0 = .ok (.aload_n 0, 1) := by decide +kernel
theorem dX4_findOval_1 : decode cX4_findOval 1 = .ok (.iconst 0, 1) := by decide +kernel
theorem dX4_findOval_2 : decode cX4_findOval 2 = .ok (.putfield 50, 3) := by decide +kernel
theorem dX4_findOval_5 : decode cX4_findOval 5 = .ok (.aload_n 0, 1) := by decide +kernel
theorem dX4_findOval_6 : decode cX4_findOval 6 = .ok (.iconst 0, 1) := by decide +kernel
theorem dX4_findOval_7 : decode cX4_findOval 7 = .ok (.putfield 53, 3) := by decide +kernel
theorem dX4_findOval_10 : decode cX4_findOval 10 = .ok (.aload_n 0, 1) := by decide +kernel
theorem dX4_findOval_11 : decode cX4_findOval 11 = .ok (.iconst 1, 1) := by decide +kernel
theorem dX4_findOval_12 : decode cX4_findOval 12 = .ok (.putfield 56, 3) := by decide +kernel
theorem dX4_findOval_15 : decode cX4_findOval 15 = .ok (.iconst 0, 1) := by decide +kernel
theorem dX4_findOval_16 : decode cX4_findOval 16 = .ok (.istore_n 2, 1) := by decide +kernel
theorem dX4_findOval_17 : decode cX4_findOval 17 = .ok (.iload_n 2, 1) := by decide +kernel
theorem dX4_findOval_18 : decode cX4_findOval 18 = .ok (.aload_n 0, 1) := by decide +kernel
theorem dX4_findOval_19 : decode cX4_findOval 19 = .ok (.getfield 18, 3) := by decide +kernel
theorem dX4_findOval_22 : decode cX4_findOval 22 = .ok (.invokevirtual 38, 3) := by decide +kernel
theorem dX4_findOval_25 : decode cX4_findOval 25 = .ok (.if_icmp .ge 71, 3) := by decide +kernel
theorem dX4_findOval_28 : decode cX4_findOval 28 = .ok (.iload_n 2, 1) := by decide +kernel
theorem dX4_findOval_29 : decode cX4_findOval 29 = .ok (.istore_n 3, 1) := by decide +kernel
theorem dX4_findOval_30 : decode cX4_findOval 30 = .ok (.iload_n 3, 1) := by decide +kernel
theorem dX4_findOval_31 : decode cX4_findOval 31 = .ok (.aload_n 0, 1) := by decide +kernel
theorem dX4_findOval_32 : decode cX4_findOval 32 = .ok (.getfield 18, 3) := by decide +kernel
theorem dX4_findOval_35 : decode cX4_findOval 35 = .ok (.invokevirtual 38, 3) := by decide +kernel
theorem dX4_findOval_38 : decode cX4_findOval 38 = .ok (.if_icmp .ge 52, 3) := by decide +kernel
theorem dX4_findOval_41 : decode cX4_findOval 41 = .ok (.aload_n 0, 1) := by decide +kernel
theorem dX4_findOval_42 : decode cX4_findOval 42 = .ok (.iload_n 2, 1) := by decide +kernel
theorem dX4_findOval_43 : decode cX4_findOval 43 = .ok (.iload_n 3, 1) := by decide +kernel
theorem dX4_findOval_44 : decode cX4_findOval 44 = .ok (.invokevirtual 76, 3) := by decide +kernel
theorem dX4_findOval_47 : decode cX4_findOval 47 = .ok (.istore 4, 2) := by decide +kernel
theorem dX4_findOval_49 : decode cX4_findOval 49 = .ok (.iload 4, 2) := by decide +kernel
theorem dX4_findOval_51 : decode cX4_findOval 51 = .ok (.aload_n 0, 1) := by decide +kernel
theorem dX4_findOval_52 : decode cX4_findOval 52 = .ok (.getfield 56, 3) := by decide +kernel
theorem dX4_findOval_55 : decode cX4_findOval 55 = .ok (.if_icmp .le 29, 3) := by decide +kernel
theorem dX4_findOval_58 : decode cX4_findOval 58 = .ok (.aload_n 0, 1) := by decide +kernel
theorem dX4_findOval_59 : decode cX4_findOval 59 = .ok (.iload_n 2, 1) := by decide +kernel
theorem dX4_findOval_60 : decode cX4_findOval 60 = .ok (.iload_n 3, 1) := by decide +kernel
theorem dX4_findOval_61 : decode cX4_findOval 61 = .ok (.invokevirtual 79, 3) := by decide +kernel
theorem dX4_findOval_64 : decode cX4_findOval 64 = .ok (.iload_n 1, 1) := by decide +kernel
theorem dX4_findOval_65 : decode cX4_findOval 65 = .ok (.if_icmp .gt 19, 3) := by decide +kernel
theorem dX4_findOval_68 : decode cX4_findOval 68 = .ok (.aload_n 0, 1) := by decide +kernel
theorem dX4_findOval_69 : decode cX4_findOval 69 = .ok (.iload_n 2, 1) := by decide +kernel
theorem dX4_findOval_70 : decode cX4_findOval 70 = .ok (.putfield 50, 3) := by decide +kernel
theorem dX4_findOval_73 : decode cX4_findOval 73 = .ok (.aload_n 0, 1) := by decide +kernel
theorem dX4_findOval_74 : decode cX4_findOval 74 = .ok (.iload_n 3, 1) := by decide +kernel
theorem dX4_findOval_75 : decode cX4_findOval 75 = .ok (.putfield 53, 3) := by decide +kernel
theorem dX4_findOval_78 : decode cX4_findOval 78 = .ok (.aload_n 0, 1) := by decide +kernel
theorem dX4_findOval_79 : decode cX4_findOval 79 = .ok (.iload 4, 2) := by decide +kernel
theorem dX4_findOval_81 : decode cX4_findOval 81 = .ok (.putfield 56, 3) := by decide +kernel
theorem dX4_findOval_84 : decode cX4_findOval 84 = .ok (.iinc 3 1, 3) := by decide +kernel
theorem dX4_findOval_87 : decode cX4_findOval 87 = .ok (.goto (-57), 3) := by decide +kernel
theorem dX4_findOval_90 : decode cX4_findOval 90 = .ok (.iinc 2 1, 3) := by decide +kernel
theorem dX4_findOval_93 : decode cX4_findOval 93 = .ok (.goto (-76), 3) := by decide +kernel
theorem dX4_findOval_96 : decode cX4_findOval 96 = .ok (.return_, 1) := by decide +kernel
theorem dX4_sizeOf_0 : decode cX4_sizeOf 0 = .ok (.aload_n 0, 1) := by decide +kernel
theorem dX4_sizeOf_1 : decode cX4_sizeOf 1 = .ok (.getfield 18, 3) := by decide +kernel
theorem dX4_sizeOf_4 : decode cX4_sizeOf 4 = .ok (.getfield 73, 3) := by decide +kernel
theorem dX4_sizeOf_7 : decode cX4_sizeOf 7 = .ok (.iload_n 2, 1) := by decide +kernel
theorem dX4_sizeOf_8 : decode cX4_sizeOf 8 = .ok (.iaload, 1) := by decide +kernel
theorem dX4_sizeOf_9 : decode cX4_sizeOf 9 = .ok (.aload_n 0, 1) := by decide +kernel
theorem dX4_sizeOf_10 : decode cX4_sizeOf 10 = .ok (.getfield 18, 3) := by decide +kernel
theorem dX4_sizeOf_13 : decode cX4_sizeOf 13 = .ok (.getfield 73, 3) := by decide +kernel
theorem dX4_sizeOf_16 : decode cX4_sizeOf 16 = .ok (.iload_n 1, 1) := by decide +kernel
theorem dX4_sizeOf_17 : decode cX4_sizeOf 17 = .ok (.iaload, 1) := by decide +kernel
theorem dX4_sizeOf_18 : decode cX4_sizeOf 18 = .ok (.isub, 1) := by decide +kernel
theorem dX4_sizeOf_19 : decode cX4_sizeOf 19 = .ok (.iconst 1, 1) := by decide +kernel
theorem dX4_sizeOf_20 : decode cX4_sizeOf 20 = .ok (.iadd, 1) := by decide +kernel
theorem dX4_sizeOf_21 : decode cX4_sizeOf 21 = .ok (.istore_n 3, 1) := by decide +kernel
theorem dX4_sizeOf_22 : decode cX4_sizeOf 22 = .ok (.iload_n 3, 1) := by decide +kernel
theorem dX4_sizeOf_23 : decode cX4_sizeOf 23 = .ok (.aload_n 0, 1) := by decide +kernel
theorem dX4_sizeOf_24 : decode cX4_sizeOf 24 = .ok (.getfield 18, 3) := by decide +kernel
theorem dX4_sizeOf_27 : decode cX4_sizeOf 27 = .ok (.getfield 67, 3) := by decide +kernel
theorem dX4_sizeOf_30 : decode cX4_sizeOf 30 = .ok (.iload_n 2, 1) := by decide +kernel
theorem dX4_sizeOf_31 : decode cX4_sizeOf 31 = .ok (.iaload, 1) := by decide +kernel
theorem dX4_sizeOf_32 : decode cX4_sizeOf 32 = .ok (.aload_n 0, 1) := by decide +kernel
theorem dX4_sizeOf_33 : decode cX4_sizeOf 33 = .ok (.getfield 18, 3) := by decide +kernel
theorem dX4_sizeOf_36 : decode cX4_sizeOf 36 = .ok (.getfield 67, 3) := by decide +kernel
theorem dX4_sizeOf_39 : decode cX4_sizeOf 39 = .ok (.iload_n 1, 1) := by decide +kernel
theorem dX4_sizeOf_40 : decode cX4_sizeOf 40 = .ok (.iaload, 1) := by decide +kernel
theorem dX4_sizeOf_41 : decode cX4_sizeOf 41 = .ok (.isub, 1) := by decide +kernel
theorem dX4_sizeOf_42 : decode cX4_sizeOf 42 = .ok (.iconst 1, 1) := by decide +kernel
theorem dX4_sizeOf_43 : decode cX4_sizeOf 43 = .ok (.iadd, 1) := by decide +kernel
theorem dX4_sizeOf_44 : decode cX4_sizeOf 44 = .ok (.imul, 1) := by decide +kernel
theorem dX4_sizeOf_45 : decode cX4_sizeOf 45 = .ok (.ireturn, 1) := by decide +kernel
theorem dX4_spread_0 : decode cX4_spread 0 = .ok (.aload_n 0, 1) := by decide +kernel
theorem dX4_spread_1 : decode cX4_spread 1 = .ok (.getfield 9, 3) := by decide +kernel
theorem dX4_spread_4 : decode cX4_spread 4 = .ok (.iload_n 1, 1) := by decide +kernel
theorem dX4_spread_5 : decode cX4_spread 5 = .ok (.iaload, 1) := by decide +kernel
theorem dX4_spread_6 : decode cX4_spread 6 = .ok (.istore_n 3, 1) := by decide +kernel
theorem dX4_spread_7 : decode cX4_spread 7 = .ok (.aload_n 0, 1) := by decide +kernel
theorem dX4_spread_8 : decode cX4_spread 8 = .ok (.getfield 9, 3) := by decide +kernel
theorem dX4_spread_11 : decode cX4_spread 11 = .ok (.iload_n 1, 1) := by decide +kernel
theorem dX4_spread_12 : decode cX4_spread 12 = .ok (.iaload, 1) := by decide +kernel
theorem dX4_spread_13 : decode cX4_spread 13 = .ok (.istore 4, 2) := by decide +kernel
theorem dX4_spread_15 : decode cX4_spread 15 = .ok (.iload_n 1, 1) := by decide +kernel
theorem dX4_spread_16 : decode cX4_spread 16 = .ok (.istore 5, 2) := by decide +kernel
theorem dX4_spread_18 : decode cX4_spread 18 = .ok (.iload 5, 2) := by decide +kernel
theorem dX4_spread_20 : decode cX4_spread 20 = .ok (.iload_n 2, 1) := by decide +kernel
theorem dX4_spread_21 : decode cX4_spread 21 = .ok (.if_icmp .gt 79, 3) := by decide +kernel
theorem dX4_spread_24 : decode cX4_spread 24 = .ok (.aload_n 0, 1) := by decide +kernel
theorem dX4_spread_25 : decode cX4_spread 25 = .ok (.getfield 18, 3) := by decide +kernel
theorem dX4_spread_28 : decode cX4_spread 28 = .ok (.getfield 73, 3) := by decide +kernel
theorem dX4_spread_31 : decode cX4_spread 31 = .ok (.iload 5, 2) := by decide +kernel
theorem dX4_spread_33 : decode cX4_spread 33 = .ok (.iaload, 1) := by decide +kernel
theorem dX4_spread_34 : decode cX4_spread 34 = .ok (.aload_n 0, 1) := by decide +kernel
theorem dX4_spread_35 : decode cX4_spread 35 = .ok (.getfield 18, 3) := by decide +kernel
theorem dX4_spread_38 : decode cX4_spread 38 = .ok (.getfield 73, 3) := by decide +kernel
theorem dX4_spread_41 : decode cX4_spread 41 = .ok (.iload_n 1, 1) := by decide +kernel
theorem dX4_spread_42 : decode cX4_spread 42 = .ok (.iaload, 1) := by decide +kernel
theorem dX4_spread_43 : decode cX4_spread 43 = .ok (.if_icmp .lt 51, 3) := by decide +kernel
theorem dX4_spread_46 : decode cX4_spread 46 = .ok (.aload_n 0, 1) := by decide +kernel
theorem dX4_spread_47 : decode cX4_spread 47 = .ok (.getfield 18, 3) := by decide +kernel
theorem dX4_spread_50 : decode cX4_spread 50 = .ok (.getfield 73, 3) := by decide +kernel
theorem dX4_spread_53 : decode cX4_spread 53 = .ok (.iload 5, 2) := by decide +kernel
theorem dX4_spread_55 : decode cX4_spread 55 = .ok (.iaload, 1) := by decide +kernel
theorem dX4_spread_56 : decode cX4_spread 56 = .ok (.aload_n 0, 1) := by decide +kernel
theorem dX4_spread_57 : decode cX4_spread 57 = .ok (.getfield 18, 3) := by decide +kernel
theorem dX4_spread_60 : decode cX4_spread 60 = .ok (.getfield 73, 3) := by decide +kernel
theorem dX4_spread_63 : decode cX4_spread 63 = .ok (.iload_n 2, 1) := by decide +kernel
theorem dX4_spread_64 : decode cX4_spread 64 = .ok (.iaload, 1) := by decide +kernel
theorem dX4_spread_65 : decode cX4_spread 65 = .ok (.if_icmp .gt 29, 3) := by decide +kernel
theorem dX4_spread_68 : decode cX4_spread 68 = .ok (.iload_n 3, 1) := by decide +kernel
theorem dX4_spread_69 : decode cX4_spread 69 = .ok (.aload_n 0, 1) := by decide +kernel
theorem dX4_spread_70 : decode cX4_spread 70 = .ok (.getfield 9, 3) := by decide +kernel
theorem dX4_spread_73 : decode cX4_spread 73 = .ok (.iload 5, 2) := by decide +kernel
theorem dX4_spread_75 : decode cX4_spread 75 = .ok (.iaload, 1) := by decide +kernel
theorem dX4_spread_76 : decode cX4_spread 76 = .ok (.invokestatic 82, 3) := by decide +kernel
theorem dX4_spread_79 : decode cX4_spread 79 = .ok (.istore_n 3, 1) := by decide +kernel
theorem dX4_spread_80 : decode cX4_spread 80 = .ok (.iload 4, 2) := by decide +kernel
theorem dX4_spread_82 : decode cX4_spread 82 = .ok (.aload_n 0, 1) := by decide +kernel
theorem dX4_spread_83 : decode cX4_spread 83 = .ok (.getfield 9, 3) := by decide +kernel
theorem dX4_spread_86 : decode cX4_spread 86 = .ok (.iload 5, 2) := by decide +kernel
theorem dX4_spread_88 : decode cX4_spread 88 = .ok (.iaload, 1) := by decide +kernel
theorem dX4_spread_89 : decode cX4_spread 89 = .ok (.invokestatic 32, 3) := by decide +kernel
theorem dX4_spread_92 : decode cX4_spread 92 = .ok (.istore 4, 2) := by decide +kernel
theorem dX4_spread_94 : decode cX4_spread 94 = .ok (.iinc 5 1, 3) := by decide +kernel
theorem dX4_spread_97 : decode cX4_spread 97 = .ok (.goto (-79), 3) := by decide +kernel
theorem dX4_spread_100 : decode cX4_spread 100 = .ok (.iload 4, 2) := by decide +kernel
theorem dX4_spread_102 : decode cX4_spread 102 = .ok (.iload_n 3, 1) := by decide +kernel
theorem dX4_spread_103 : decode cX4_spread 103 = .ok (.isub, 1) := by decide +kernel
theorem dX4_spread_104 : decode cX4_spread 104 = .ok (.ireturn, 1) := by decide +kernel
theorem dX5_init_0 : decode cX5_init 0 = .ok (.aload_n 0, 1) := by decide +kernel
theorem dX5_init_1 : decode cX5_init 1 = .ok (.invokespecial 3, 3) := by decide +kernel
theorem dX5_init_4 : decode cX5_init 4 = .ok (.aload_n 0, 1) := by decide +kernel
theorem dX5_init_5 : decode cX5_init 5 = .ok (.bipush 10, 2) := by decide +kernel
theorem dX5_init_7 : decode cX5_init 7 = .ok (.newarray .int, 2) := by decide +kernel
theorem dX5_init_9 : decode cX5_init 9 = .ok (.putfield 9, 3) := by decide +kernel
theorem dX5_init_12 : decode cX5_init 12 = .ok (.aload_n 0, 1) := by decide +kernel
theorem dX5_init_13 : decode cX5_init 13 = .ok (.bipush 10, 2) := by decide +kernel
theorem dX5_init_15 : decode cX5_init 15 = .ok (.newarray .int, 2) := by decide +kernel
theorem dX5_init_17 : decode cX5_init 17 = .ok (.putfield 15, 3) := by decide +kernel
theorem dX5_init_20 : decode cX5_init 20 = .ok (.aload_n 0, 1) := by decide +kernel
theorem dX5_init_21 : decode cX5_init 21 = .ok (.bipush 10, 2) := by decide +kernel
theorem dX5_init_23 : decode cX5_init 23 = .ok (.newarray .int, 2) := by decide +kernel
theorem dX5_init_25 : decode cX5_init 25 = .ok (.putfield 18, 3) := by decide +kernel
theorem dX5_init_28 : decode cX5_init 28 = .ok (.aload_n 0, 1) := by decide +kernel
theorem dX5_init_29 : decode cX5_init 29 = .ok (.aload_n 1, 1) := by decide +kernel
theorem dX5_init_30 : decode cX5_init 30 = .ok (.putfield 21, 3) := by decide +kernel
theorem dX5_init_33 : decode cX5_init 33 = .ok (.return_, 1) := by decide +kernel
theorem dX5_forgetAll_0 : decode cX5_forgetAll 0 = .ok (.aload_n 0, 1) := by decide +kernel
theorem dX5_forgetAll_1 : decode cX5_forgetAll 1 = .ok (.iconst 0, 1) := by decide +kernel
theorem dX5_forgetAll_2 : decode cX5_forgetAll 2 = .ok (.putfield 25, 3) := by decide +kernel
theorem dX5_forgetAll_5 : decode cX5_forgetAll 5 = .ok (.return_, 1) := by decide +kernel
theorem dX5_isFull_0 : decode cX5_isFull 0 = .ok (.aload_n 0, 1) := by decide +kernel
theorem dX5_isFull_1 : decode cX5_isFull 1 = .ok (.getfield 25, 3) := by decide +kernel
theorem dX5_isFull_4 : decode cX5_isFull 4 = .ok (.bipush 10, 2) := by decide +kernel
theorem dX5_isFull_6 : decode cX5_isFull 6 = .ok (.if_icmp .lt 7, 3) := by decide +kernel
theorem dX5_isFull_9 : decode cX5_isFull 9 = .ok (.iconst 1, 1) := by decide +kernel
theorem dX5_isFull_10 : decode cX5_isFull 10 = .ok (.goto 4, 3) := by decide +kernel
theorem dX5_isFull_13 : decode cX5_isFull 13 = .ok (.iconst 0, 1) := by decide +kernel
theorem dX5_isFull_14 : decode cX5_isFull 14 = .ok (.ireturn, 1) := by decide +kernel
theorem dX5_take_0 : decode cX5_take 0 = .ok (.aload_n 0, 1) := by decide +kernel
theorem dX5_take_1 : decode cX5_take 1 = .ok (.getfield 9, 3) := by decide +kernel
theorem dX5_take_4 : decode cX5_take 4 = .ok (.aload_n 0, 1) := by decide +kernel
theorem dX5_take_5 : decode cX5_take 5 = .ok (.getfield 25, 3) := by decide +kernel
theorem dX5_take_8 : decode cX5_take 8 = .ok (.iload_n 1, 1) := by decide +kernel
theorem dX5_take_9 : decode cX5_take 9 = .ok (.iastore, 1) := by decide +kernel
theorem dX5_take_10 : decode cX5_take 10 = .ok (.aload_n 0, 1) := by decide +kernel
theorem dX5_take_11 : decode cX5_take 11 = .ok (.getfield 15, 3) := by decide +kernel
theorem dX5_take_14 : decode cX5_take 14 = .ok (.aload_n 0, 1) := by decide +kernel
theorem dX5_take_15 : decode cX5_take 15 = .ok (.getfield 25, 3) := by decide +kernel
theorem dX5_take_18 : decode cX5_take 18 = .ok (.iload_n 2, 1) := by decide +kernel
theorem dX5_take_19 : decode cX5_take 19 = .ok (.iastore, 1) := by decide +kernel
theorem dX5_take_20 : decode cX5_take 20 = .ok (.aload_n 0, 1) := by decide +kernel
theorem dX5_take_21 : decode cX5_take 21 = .ok (.getfield 18, 3) := by decide +kernel
theorem dX5_take_24 : decode cX5_take 24 = .ok (.aload_n 0, 1) := by decide +kernel
theorem dX5_take_25 : decode cX5_take 25 = .ok (.getfield 25, 3) := by decide +kernel
theorem dX5_take_28 : decode cX5_take 28 = .ok (.iload_n 3, 1) := by decide +kernel
theorem dX5_take_29 : decode cX5_take 29 = .ok (.iastore, 1) := by decide +kernel
theorem dX5_take_30 : decode cX5_take 30 = .ok (.aload_n 0, 1) := by decide +kernel
theorem dX5_take_31 : decode cX5_take 31 = .ok (.dup, 1) := by decide +kernel
theorem dX5_take_32 : decode cX5_take 32 = .ok (.getfield 25, 3) := by decide +kernel
theorem dX5_take_35 : decode cX5_take 35 = .ok (.iconst 1, 1) := by decide +kernel
theorem dX5_take_36 : decode cX5_take 36 = .ok (.iadd, 1) := by decide +kernel
theorem dX5_take_37 : decode cX5_take 37 = .ok (.putfield 25, 3) := by decide +kernel
theorem dX5_take_40 : decode cX5_take 40 = .ok (.aload_n 0, 1) := by decide +kernel
theorem dX5_take_41 : decode cX5_take 41 = .ok (.getfield 25, 3) := by decide +kernel
theorem dX5_take_44 : decode cX5_take 44 = .ok (.iconst 1, 1) := by decide +kernel
theorem dX5_take_45 : decode cX5_take 45 = .ok (.isub, 1) := by decide +kernel
theorem dX5_take_46 : decode cX5_take 46 = .ok (.ireturn, 1) := by decide +kernel
theorem dX5_takeBack_0 : decode cX5_takeBack 0 = .ok (.aload_n 0, 1) := by decide +kernel
theorem dX5_takeBack_1 : decode cX5_takeBack 1 = .ok (.dup, 1) := by decide +kernel
theorem dX5_takeBack_2 : decode cX5_takeBack 2 = .ok (.getfield 25, 3) := by decide +kernel
theorem dX5_takeBack_5 : decode cX5_takeBack 5 = .ok (.iload_n 1, 1) := by decide +kernel
theorem dX5_takeBack_6 : decode cX5_takeBack 6 = .ok (.isub, 1) := by decide +kernel
theorem dX5_takeBack_7 : decode cX5_takeBack 7 = .ok (.putfield 25, 3) := by decide +kernel
theorem dX5_takeBack_10 : decode cX5_takeBack 10 = .ok (.aload_n 0, 1) := by decide +kernel
theorem dX5_takeBack_11 : decode cX5_takeBack 11 = .ok (.getfield 25, 3) := by decide +kernel
theorem dX5_takeBack_14 : decode cX5_takeBack 14 = .ok (.ireturn, 1) := by decide +kernel
theorem dX5_kindsOf_0 : decode cX5_kindsOf 0 = .ok (.iconst 0, 1) := by decide +kernel
theorem dX5_kindsOf_1 : decode cX5_kindsOf 1 = .ok (.istore_n 2, 1) := by decide +kernel
theorem dX5_kindsOf_2 : decode cX5_kindsOf 2 = .ok (.iconst 0, 1) := by decide +kernel
theorem dX5_kindsOf_3 : decode cX5_kindsOf 3 = .ok (.istore_n 3, 1) := by decide +kernel
theorem dX5_kindsOf_4 : decode cX5_kindsOf 4 = .ok (.iload_n 3, 1) := by decide +kernel
theorem dX5_kindsOf_5 : decode cX5_kindsOf 5 = .ok (.iconst 3, 1) := by decide +kernel
theorem dX5_kindsOf_6 : decode cX5_kindsOf 6 = .ok (.if_icmp .ge 24, 3) := by decide +kernel
theorem dX5_kindsOf_9 : decode cX5_kindsOf 9 = .ok (.aload_n 0, 1) := by decide +kernel
theorem dX5_kindsOf_10 : decode cX5_kindsOf 10 = .ok (.iload_n 1, 1) := by decide +kernel
theorem dX5_kindsOf_11 : decode cX5_kindsOf 11 = .ok (.iload_n 3, 1) := by decide +kernel
theorem dX5_kindsOf_12 : decode cX5_kindsOf 12 = .ok (.invokevirtual 29, 3) := by decide +kernel
theorem dX5_kindsOf_15 : decode cX5_kindsOf 15 = .ok (.ifCond .eq 9, 3) := by decide +kernel
theorem dX5_kindsOf_18 : decode cX5_kindsOf 18 = .ok (.iload_n 2, 1) := by decide +kernel
theorem dX5_kindsOf_19 : decode cX5_kindsOf 19 = .ok (.iconst 1, 1) := by decide +kernel
theorem dX5_kindsOf_20 : decode cX5_kindsOf 20 = .ok (.iload_n 3, 1) := by decide +kernel
theorem dX5_kindsOf_21 : decode cX5_kindsOf 21 = .ok (.ishl, 1) := by decide +kernel
theorem dX5_kindsOf_22 : decode cX5_kindsOf 22 = .ok (.ior, 1) := by decide +kernel
theorem dX5_kindsOf_23 : decode cX5_kindsOf 23 = .ok (.istore_n 2, 1) := by decide +kernel
theorem dX5_kindsOf_24 : decode cX5_kindsOf 24 = .ok (.iinc 3 1, 3) := by decide +kernel
theorem dX5_kindsOf_27 : decode cX5_kindsOf 27 = .ok (.goto (-23), 3) := by decide +kernel
theorem dX5_kindsOf_30 : decode cX5_kindsOf 30 = .ok (.iload_n 2, 1) := by decide +kernel
theorem dX5_kindsOf_31 : decode cX5_kindsOf 31 = .ok (.ireturn, 1) := by decide +kernel
theorem dX5_areAllSo_0 : decode cX5_areAllSo 0 = .ok (.iconst 0, 1) := by decide +kernel
theorem dX5_areAllSo_1 : decode cX5_areAllSo 1 = .ok (.istore_n 3, 1) := by decide +kernel
theorem dX5_areAllSo_2 : decode cX5_areAllSo 2 = .ok (.iload_n 3, 1) := by decide +kernel
theorem dX5_areAllSo_3 : decode cX5_areAllSo 3 = .ok (.aload_n 0, 1) := by decide +kernel
theorem dX5_areAllSo_4 : decode cX5_areAllSo 4 = .ok (.getfield 25, 3) := by decide +kernel
theorem dX5_areAllSo_7 : decode cX5_areAllSo 7 = .ok (.if_icmp .ge 45, 3) := by decide +kernel
theorem dX5_areAllSo_10 : decode cX5_areAllSo 10 = .ok (.aload_n 0, 1) := by decide +kernel
theorem dX5_areAllSo_11 : decode cX5_areAllSo 11 = .ok (.getfield 9, 3) := by decide +kernel
theorem dX5_areAllSo_14 : decode cX5_areAllSo 14 = .ok (.iload_n 3, 1) := by decide +kernel
theorem dX5_areAllSo_15 : decode cX5_areAllSo 15 = .ok (.iaload, 1) := by decide +kernel
theorem dX5_areAllSo_16 : decode cX5_areAllSo 16 = .ok (.iload_n 1, 1) := by decide +kernel
theorem dX5_areAllSo_17 : decode cX5_areAllSo 17 = .ok (.if_icmp .ne 29, 3) := by decide +kernel
theorem dX5_areAllSo_20 : decode cX5_areAllSo 20 = .ok (.aload_n 0, 1) := by decide +kernel
theorem dX5_areAllSo_21 : decode cX5_areAllSo 21 = .ok (.getfield 21, 3) := by decide +kernel
theorem dX5_areAllSo_24 : decode cX5_areAllSo 24 = .ok (.iload_n 2, 1) := by decide +kernel
theorem dX5_areAllSo_25 : decode cX5_areAllSo 25 = .ok (.iload_n 1, 1) := by decide +kernel
theorem dX5_areAllSo_26 : decode cX5_areAllSo 26 = .ok (.aload_n 0, 1) := by decide +kernel
theorem dX5_areAllSo_27 : decode cX5_areAllSo 27 = .ok (.getfield 15, 3) := by decide +kernel
theorem dX5_areAllSo_30 : decode cX5_areAllSo 30 = .ok (.iload_n 3, 1) := by decide +kernel
theorem dX5_areAllSo_31 : decode cX5_areAllSo 31 = .ok (.iaload, 1) := by decide +kernel
theorem dX5_areAllSo_32 : decode cX5_areAllSo 32 = .ok (.invokevirtual 33, 3) := by decide +kernel
theorem dX5_areAllSo_35 : decode cX5_areAllSo 35 = .ok (.aload_n 0, 1) := by decide +kernel
theorem dX5_areAllSo_36 : decode cX5_areAllSo 36 = .ok (.getfield 18, 3) := by decide +kernel
theorem dX5_areAllSo_39 : decode cX5_areAllSo 39 = .ok (.iload_n 3, 1) := by decide +kernel
theorem dX5_areAllSo_40 : decode cX5_areAllSo 40 = .ok (.iaload, 1) := by decide +kernel
theorem dX5_areAllSo_41 : decode cX5_areAllSo 41 = .ok (.if_icmp .eq 5, 3) := by decide +kernel
theorem dX5_areAllSo_44 : decode cX5_areAllSo 44 = .ok (.iconst 0, 1) := by decide +kernel
theorem dX5_areAllSo_45 : decode cX5_areAllSo 45 = .ok (.ireturn, 1) := by decide +kernel
theorem dX5_areAllSo_46 : decode cX5_areAllSo 46 = .ok (.iinc 3 1, 3) := by decide +kernel
theorem dX5_areAllSo_49 : decode cX5_areAllSo 49 = .ok (.goto (-47), 3) := by decide +kernel
theorem dX5_areAllSo_52 : decode cX5_areAllSo 52 = .ok (.iconst 1, 1) := by decide +kernel
theorem dX5_areAllSo_53 : decode cX5_areAllSo 53 = .ok (.ireturn, 1) := by decide +kernel
theorem dX6_init_0 : decode cX6_init 0 = .ok (.aload_n 0, 1) := by decide +kernel
theorem dX6_init_1 : decode cX6_init 1 = .ok (.invokespecial 3, 3) := by decide +kernel
theorem dX6_init_4 : decode cX6_init 4 = .ok (.aload_n 0, 1) := by decide +kernel
theorem dX6_init_5 : decode cX6_init 5 = .ok (.bipush 80, 2) := by decide +kernel
theorem dX6_init_7 : decode cX6_init 7 = .ok (.newarray .int, 2) := by decide +kernel
theorem dX6_init_9 : decode cX6_init 9 = .ok (.putfield 9, 3) := by decide +kernel
theorem dX6_init_12 : decode cX6_init 12 = .ok (.aload_n 0, 1) := by decide +kernel
theorem dX6_init_13 : decode cX6_init 13 = .ok (.iconst (-1), 1) := by decide +kernel
theorem dX6_init_14 : decode cX6_init 14 = .ok (.putfield 15, 3) := by decide +kernel
theorem dX6_init_17 : decode cX6_init 17 = .ok (.return_, 1) := by decide +kernel
theorem dX6_isNothing_0 : decode cX6_isNothing 0 = .ok (.aload_n 0, 1) := by decide +kernel
theorem dX6_isNothing_1 : decode cX6_isNothing 1 = .ok (.getfield 15, 3) := by decide +kernel
theorem dX6_isNothing_4 : decode cX6_isNothing 4 = .ok (.iconst (-1), 1) := by decide +kernel
theorem dX6_isNothing_5 : decode cX6_isNothing 5 = .ok (.if_icmp .ne 7, 3) := by decide +kernel
theorem dX6_isNothing_8 : decode cX6_isNothing 8 = .ok (.iconst 1, 1) := by decide +kernel
theorem dX6_isNothing_9 : decode cX6_isNothing 9 = .ok (.goto 4, 3) := by decide +kernel
theorem dX6_isNothing_12 : decode cX6_isNothing 12 = .ok (.iconst 0, 1) := by decide +kernel
theorem dX6_isNothing_13 : decode cX6_isNothing 13 = .ok (.ireturn, 1) := by decide +kernel
theorem dX6_faultAs_0 : decode cX6_faultAs 0 = .ok (.aload_n 0, 1) := by decide +kernel
theorem dX6_faultAs_1 : decode cX6_faultAs 1 = .ok (.invokevirtual 19, 3) := by decide +kernel
theorem dX6_faultAs_4 : decode cX6_faultAs 4 = .ok (.ifCond .eq 5, 3) := by decide +kernel
theorem dX6_faultAs_7 : decode cX6_faultAs 7 = .ok (.iconst 1, 1) := by decide +kernel
theorem dX6_faultAs_8 : decode cX6_faultAs 8 = .ok (.ireturn, 1) := by decide +kernel
theorem dX6_faultAs_9 : decode cX6_faultAs 9 = .ok (.aload_n 0, 1) := by decide +kernel
theorem dX6_faultAs_10 : decode cX6_faultAs 10 = .ok (.getfield 15, 3) := by decide +kernel
theorem dX6_faultAs_13 : decode cX6_faultAs 13 = .ok (.iload_n 1, 1) := by decide +kernel
theorem dX6_faultAs_14 : decode cX6_faultAs 14 = .ok (.if_icmp .ne 7, 3) := by decide +kernel
theorem dX6_faultAs_17 : decode cX6_faultAs 17 = .ok (.iconst 0, 1) := by decide +kernel
theorem dX6_faultAs_18 : decode cX6_faultAs 18 = .ok (.goto 4, 3) := by decide +kernel
theorem dX6_faultAs_21 : decode cX6_faultAs 21 = .ok (.iconst 2, 1) := by decide +kernel
theorem dX6_faultAs_22 : decode cX6_faultAs 22 = .ok (.ireturn, 1) := by decide +kernel
theorem dX6_hasCell_0 : decode cX6_hasCell 0 = .ok (.iload_n 1, 1) := by decide +kernel
theorem dX6_hasCell_1 : decode cX6_hasCell 1 = .ok (.ifCond .lt 15, 3) := by decide +kernel
theorem dX6_hasCell_4 : decode cX6_hasCell 4 = .ok (.iload_n 1, 1) := by decide +kernel
theorem dX6_hasCell_5 : decode cX6_hasCell 5 = .ok (.aload_n 0, 1) := by decide +kernel
theorem dX6_hasCell_6 : decode cX6_hasCell 6 = .ok (.getfield 23, 3) := by decide +kernel
theorem dX6_hasCell_9 : decode cX6_hasCell 9 = .ok (.if_icmp .ge 7, 3) := by decide +kernel
theorem dX6_hasCell_12 : decode cX6_hasCell 12 = .ok (.iconst 1, 1) := by decide +kernel
theorem dX6_hasCell_13 : decode cX6_hasCell 13 = .ok (.goto 4, 3) := by decide +kernel
theorem dX6_hasCell_16 : decode cX6_hasCell 16 = .ok (.iconst 0, 1) := by decide +kernel
theorem dX6_hasCell_17 : decode cX6_hasCell 17 = .ok (.ireturn, 1) := by decide +kernel
theorem dX6_hasCells_0 : decode cX6_hasCells 0 = .ok (.iload_n 1, 1) := by decide +kernel
theorem dX6_hasCells_1 : decode cX6_hasCells 1 = .ok (.ifCond .lt 25, 3) := by decide +kernel
theorem dX6_hasCells_4 : decode cX6_hasCells 4 = .ok (.iload_n 1, 1) := by decide +kernel
theorem dX6_hasCells_5 : decode cX6_hasCells 5 = .ok (.aload_n 0, 1) := by decide +kernel
theorem dX6_hasCells_6 : decode cX6_hasCells 6 = .ok (.getfield 23, 3) := by decide +kernel
theorem dX6_hasCells_9 : decode cX6_hasCells 9 = .ok (.if_icmp .gt 17, 3) := by decide +kernel
theorem dX6_hasCells_12 : decode cX6_hasCells 12 = .ok (.iload_n 2, 1) := by decide +kernel
theorem dX6_hasCells_13 : decode cX6_hasCells 13 = .ok (.aload_n 0, 1) := by decide +kernel
theorem dX6_hasCells_14 : decode cX6_hasCells 14 = .ok (.getfield 23, 3) := by decide +kernel
theorem dX6_hasCells_17 : decode cX6_hasCells 17 = .ok (.iload_n 1, 1) := by decide +kernel
theorem dX6_hasCells_18 : decode cX6_hasCells 18 = .ok (.isub, 1) := by decide +kernel
theorem dX6_hasCells_19 : decode cX6_hasCells 19 = .ok (.if_icmp .gt 7, 3) := by decide +kernel
theorem dX6_hasCells_22 : decode cX6_hasCells 22 = .ok (.iconst 1, 1) := by decide +kernel
theorem dX6_hasCells_23 : decode cX6_hasCells 23 = .ok (.goto 4, 3) := by decide +kernel
theorem dX6_hasCells_26 : decode cX6_hasCells 26 = .ok (.iconst 0, 1) := by decide +kernel
theorem dX6_hasCells_27 : decode cX6_hasCells 27 = .ok (.ireturn, 1) := by decide +kernel
theorem dX6_renew_0 : decode cX6_renew 0 = .ok (.iconst 0, 1) := by decide +kernel
theorem dX6_renew_1 : decode cX6_renew 1 = .ok (.istore_n 3, 1) := by decide +kernel
theorem dX6_renew_2 : decode cX6_renew 2 = .ok (.iload_n 3, 1) := by decide +kernel
theorem dX6_renew_3 : decode cX6_renew 3 = .ok (.iload_n 2, 1) := by decide +kernel
theorem dX6_renew_4 : decode cX6_renew 4 = .ok (.if_icmp .ge 16, 3) := by decide +kernel
theorem dX6_renew_7 : decode cX6_renew 7 = .ok (.aload_n 0, 1) := by decide +kernel
theorem dX6_renew_8 : decode cX6_renew 8 = .ok (.getfield 9, 3) := by decide +kernel
theorem dX6_renew_11 : decode cX6_renew 11 = .ok (.iload_n 3, 1) := by decide +kernel
theorem dX6_renew_12 : decode cX6_renew 12 = .ok (.iconst 0, 1) := by decide +kernel
theorem dX6_renew_13 : decode cX6_renew 13 = .ok (.iastore, 1) := by decide +kernel
theorem dX6_renew_14 : decode cX6_renew 14 = .ok (.iinc 3 1, 3) := by decide +kernel
theorem dX6_renew_17 : decode cX6_renew 17 = .ok (.goto (-15), 3) := by decide +kernel
theorem dX6_renew_20 : decode cX6_renew 20 = .ok (.aload_n 0, 1) := by decide +kernel
theorem dX6_renew_21 : decode cX6_renew 21 = .ok (.iload_n 1, 1) := by decide +kernel
theorem dX6_renew_22 : decode cX6_renew 22 = .ok (.putfield 15, 3) := by decide +kernel
theorem dX6_renew_25 : decode cX6_renew 25 = .ok (.aload_n 0, 1) := by decide +kernel
theorem dX6_renew_26 : decode cX6_renew 26 = .ok (.iload_n 2, 1) := by decide +kernel
theorem dX6_renew_27 : decode cX6_renew 27 = .ok (.putfield 23, 3) := by decide +kernel
theorem dX6_renew_30 : decode cX6_renew 30 = .ok (.return_, 1) := by decide +kernel
theorem dX6_clear_0 : decode cX6_clear 0 = .ok (.aload_n 0, 1) := by decide +kernel
theorem dX6_clear_1 : decode cX6_clear 1 = .ok (.invokevirtual 19, 3) := by decide +kernel
theorem dX6_clear_4 : decode cX6_clear 4 = .ok (.ifCond .ne 7, 3) := by decide +kernel
theorem dX6_clear_7 : decode cX6_clear 7 = .ok (.iconst 1, 1) := by decide +kernel
theorem dX6_clear_8 : decode cX6_clear 8 = .ok (.goto 4, 3) := by decide +kernel
theorem dX6_clear_11 : decode cX6_clear 11 = .ok (.iconst 0, 1) := by decide +kernel
theorem dX6_clear_12 : decode cX6_clear 12 = .ok (.istore_n 1, 1) := by decide +kernel
theorem dX6_clear_13 : decode cX6_clear 13 = .ok (.aload_n 0, 1) := by decide +kernel
theorem dX6_clear_14 : decode cX6_clear 14 = .ok (.iconst (-1), 1) := by decide +kernel
theorem dX6_clear_15 : decode cX6_clear 15 = .ok (.putfield 15, 3) := by decide +kernel
theorem dX6_clear_18 : decode cX6_clear 18 = .ok (.aload_n 0, 1) := by decide +kernel
theorem dX6_clear_19 : decode cX6_clear 19 = .ok (.iconst 0, 1) := by decide +kernel
theorem dX6_clear_20 : decode cX6_clear 20 = .ok (.putfield 23, 3) := by decide +kernel
theorem dX6_clear_23 : decode cX6_clear 23 = .ok (.iload_n 1, 1) := by decide +kernel
theorem dX6_clear_24 : decode cX6_clear 24 = .ok (.ireturn, 1) := by decide +kernel
theorem dX6_write_0 : decode cX6_write 0 = .ok (.aload_n 0, 1) := by decide +kernel
theorem dX6_write_1 : decode cX6_write 1 = .ok (.getfield 15, 3) := by decide +kernel
theorem dX6_write_4 : decode cX6_write 4 = .ok (.lookupswitch 50 #[(0, 28), (1, 39)], 28) := by decide +kernel
theorem dX6_write_32 : decode cX6_write 32 = .ok (.aload_n 0, 1) := by decide +kernel
theorem dX6_write_33 : decode cX6_write 33 = .ok (.getfield 9, 3) := by decide +kernel
theorem dX6_write_36 : decode cX6_write 36 = .ok (.iload_n 1, 1) := by decide +kernel
theorem dX6_write_37 : decode cX6_write 37 = .ok (.iload_n 2, 1) := by decide +kernel
theorem dX6_write_38 : decode cX6_write 38 = .ok (.i2b, 1) := by decide +kernel
theorem dX6_write_39 : decode cX6_write 39 = .ok (.iastore, 1) := by decide +kernel
theorem dX6_write_40 : decode cX6_write 40 = .ok (.goto 21, 3) := by decide +kernel
theorem dX6_write_43 : decode cX6_write 43 = .ok (.aload_n 0, 1) := by decide +kernel
theorem dX6_write_44 : decode cX6_write 44 = .ok (.getfield 9, 3) := by decide +kernel
theorem dX6_write_47 : decode cX6_write 47 = .ok (.iload_n 1, 1) := by decide +kernel
theorem dX6_write_48 : decode cX6_write 48 = .ok (.iload_n 2, 1) := by decide +kernel
theorem dX6_write_49 : decode cX6_write 49 = .ok (.i2s, 1) := by decide +kernel
theorem dX6_write_50 : decode cX6_write 50 = .ok (.iastore, 1) := by decide +kernel
theorem dX6_write_51 : decode cX6_write 51 = .ok (.goto 10, 3) := by decide +kernel
theorem dX6_write_54 : decode cX6_write 54 = .ok (.aload_n 0, 1) := by decide +kernel
theorem dX6_write_55 : decode cX6_write 55 = .ok (.getfield 9, 3) := by decide +kernel
theorem dX6_write_58 : decode cX6_write 58 = .ok (.iload_n 1, 1) := by decide +kernel
theorem dX6_write_59 : decode cX6_write 59 = .ok (.iload_n 2, 1) := by decide +kernel
theorem dX6_write_60 : decode cX6_write 60 = .ok (.iastore, 1) := by decide +kernel
theorem dX6_write_61 : decode cX6_write 61 = .ok (.return_, 1) := by decide +kernel
theorem dX7_init_0 : decode cX7_init 0 = .ok (.aload_n 0, 1) := by decide +kernel
theorem dX7_init_1 : decode cX7_init 1 = .ok (.invokespecial 1, 3) := by decide +kernel
theorem dX7_init_4 : decode cX7_init 4 = .ok (.return_, 1) := by decide +kernel
theorem dX7_swell_0 : decode cX7_swell 0 = .ok (.iconst 0, 1) := by decide +kernel
theorem dX7_swell_1 : decode cX7_swell 1 = .ok (.ireturn, 1) := by decide +kernel
theorem dX7_telling_0 : decode cX7_telling 0 = .ok (.aload_n 0, 1) := by decide +kernel
theorem dX7_telling_1 : decode cX7_telling 1 = .ok (.iload_n 1, 1) := by decide +kernel
theorem dX7_telling_2 : decode cX7_telling 2 = .ok (.aload_n 2, 1) := by decide +kernel
theorem dX7_telling_3 : decode cX7_telling 3 = .ok (.invokevirtual 7, 3) := by decide +kernel
theorem dX7_telling_6 : decode cX7_telling 6 = .ok (.ireturn, 1) := by decide +kernel
theorem dX7_stoneTelling_0 : decode cX7_stoneTelling 0 = .ok (.aload_n 2, 1) := by decide +kernel
theorem dX7_stoneTelling_1 : decode cX7_stoneTelling 1 = .ok (.iconst 1, 1) := by decide +kernel
theorem dX7_stoneTelling_2 : decode cX7_stoneTelling 2 = .ok (.invokevirtual 13, 3) := by decide +kernel
theorem dX7_stoneTelling_5 : decode cX7_stoneTelling 5 = .ok (.iload_n 1, 1) := by decide +kernel
theorem dX7_stoneTelling_6 : decode cX7_stoneTelling 6 = .ok (.ireturn, 1) := by decide +kernel
theorem dX7_trodden_0 : decode cX7_trodden 0 = .ok (.aload_n 2, 1) := by decide +kernel
theorem dX7_trodden_1 : decode cX7_trodden 1 = .ok (.iconst 4, 1) := by decide +kernel
theorem dX7_trodden_2 : decode cX7_trodden 2 = .ok (.invokevirtual 13, 3) := by decide +kernel
theorem dX7_trodden_5 : decode cX7_trodden 5 = .ok (.iload_n 1, 1) := by decide +kernel
theorem dX7_trodden_6 : decode cX7_trodden 6 = .ok (.ireturn, 1) := by decide +kernel
theorem dX8_init_0 : decode cX8_init 0 = .ok (.aload_n 0, 1) := by decide +kernel
theorem dX8_init_1 : decode cX8_init 1 = .ok (.invokespecial 1, 3) := by decide +kernel
theorem dX8_init_4 : decode cX8_init 4 = .ok (.return_, 1) := by decide +kernel
theorem dX8_leave_0 : decode cX8_leave 0 = .ok (.aload_n 0, 1) := by decide +kernel
theorem dX8_leave_1 : decode cX8_leave 1 = .ok (.bipush 31, 2) := by decide +kernel
theorem dX8_leave_3 : decode cX8_leave 3 = .ok (.aload_n 0, 1) := by decide +kernel
theorem dX8_leave_4 : decode cX8_leave 4 = .ok (.getfield 7, 3) := by decide +kernel
theorem dX8_leave_7 : decode cX8_leave 7 = .ok (.imul, 1) := by decide +kernel
theorem dX8_leave_8 : decode cX8_leave 8 = .ok (.iload_n 1, 1) := by decide +kernel
theorem dX8_leave_9 : decode cX8_leave 9 = .ok (.iadd, 1) := by decide +kernel
theorem dX8_leave_10 : decode cX8_leave 10 = .ok (.putfield 7, 3) := by decide +kernel
theorem dX8_leave_13 : decode cX8_leave 13 = .ok (.return_, 1) := by decide +kernel
theorem dX9_init_0 : decode cX9_init 0 = .ok (.aload_n 0, 1) := by decide +kernel
theorem dX9_init_1 : decode cX9_init 1 = .ok (.invokespecial 3, 3) := by decide +kernel
theorem dX9_init_4 : decode cX9_init 4 = .ok (.aload_n 0, 1) := by decide +kernel
theorem dX9_init_5 : decode cX9_init 5 = .ok (.bipush 30, 2) := by decide +kernel
theorem dX9_init_7 : decode cX9_init 7 = .ok (.newarray .int, 2) := by decide +kernel
theorem dX9_init_9 : decode cX9_init 9 = .ok (.putfield 9, 3) := by decide +kernel
theorem dX9_init_12 : decode cX9_init 12 = .ok (.aload_n 0, 1) := by decide +kernel
theorem dX9_init_13 : decode cX9_init 13 = .ok (.bipush 30, 2) := by decide +kernel
theorem dX9_init_15 : decode cX9_init 15 = .ok (.newarray .int, 2) := by decide +kernel
theorem dX9_init_17 : decode cX9_init 17 = .ok (.putfield 15, 3) := by decide +kernel
theorem dX9_init_20 : decode cX9_init 20 = .ok (.aload_n 0, 1) := by decide +kernel
theorem dX9_init_21 : decode cX9_init 21 = .ok (.aload_n 1, 1) := by decide +kernel
theorem dX9_init_22 : decode cX9_init 22 = .ok (.putfield 18, 3) := by decide +kernel
theorem dX9_init_25 : decode cX9_init 25 = .ok (.return_, 1) := by decide +kernel
theorem dX9_measure_0 : decode cX9_measure 0 = .ok (.aload_n 0, 1) := by decide +kernel
theorem dX9_measure_1 : decode cX9_measure 1 = .ok (.getfield 18, 3) := by decide +kernel
theorem dX9_measure_4 : decode cX9_measure 4 = .ok (.iload_n 1, 1) := by decide +kernel
theorem dX9_measure_5 : decode cX9_measure 5 = .ok (.aload_n 0, 1) := by decide +kernel
theorem dX9_measure_6 : decode cX9_measure 6 = .ok (.getfield 9, 3) := by decide +kernel
theorem dX9_measure_9 : decode cX9_measure 9 = .ok (.invokevirtual 22, 3) := by decide +kernel
theorem dX9_measure_12 : decode cX9_measure 12 = .ok (.return_, 1) := by decide +kernel
theorem dX9_settle_0 : decode cX9_settle 0 = .ok (.iconst 0, 1) := by decide +kernel
theorem dX9_settle_1 : decode cX9_settle 1 = .ok (.istore_n 1, 1) := by decide +kernel
theorem dX9_settle_2 : decode cX9_settle 2 = .ok (.iload_n 1, 1) := by decide +kernel
theorem dX9_settle_3 : decode cX9_settle 3 = .ok (.aload_n 0, 1) := by decide +kernel
theorem dX9_settle_4 : decode cX9_settle 4 = .ok (.getfield 18, 3) := by decide +kernel
theorem dX9_settle_7 : decode cX9_settle 7 = .ok (.invokevirtual 28, 3) := by decide +kernel
theorem dX9_settle_10 : decode cX9_settle 10 = .ok (.if_icmp .ge 37, 3) := by decide +kernel
theorem dX9_settle_13 : decode cX9_settle 13 = .ok (.aload_n 0, 1) := by decide +kernel
theorem dX9_settle_14 : decode cX9_settle 14 = .ok (.getfield 15, 3) := by decide +kernel
theorem dX9_settle_17 : decode cX9_settle 17 = .ok (.iload_n 1, 1) := by decide +kernel
theorem dX9_settle_18 : decode cX9_settle 18 = .ok (.aload_n 0, 1) := by decide +kernel
theorem dX9_settle_19 : decode cX9_settle 19 = .ok (.getfield 18, 3) := by decide +kernel
theorem dX9_settle_22 : decode cX9_settle 22 = .ok (.iload_n 1, 1) := by decide +kernel
theorem dX9_settle_23 : decode cX9_settle 23 = .ok (.invokevirtual 32, 3) := by decide +kernel
theorem dX9_settle_26 : decode cX9_settle 26 = .ok (.ifCond .eq 12, 3) := by decide +kernel
theorem dX9_settle_29 : decode cX9_settle 29 = .ok (.aload_n 0, 1) := by decide +kernel
theorem dX9_settle_30 : decode cX9_settle 30 = .ok (.getfield 9, 3) := by decide +kernel
theorem dX9_settle_33 : decode cX9_settle 33 = .ok (.iload_n 1, 1) := by decide +kernel
theorem dX9_settle_34 : decode cX9_settle 34 = .ok (.iaload, 1) := by decide +kernel
theorem dX9_settle_35 : decode cX9_settle 35 = .ok (.goto 5, 3) := by decide +kernel
theorem dX9_settle_38 : decode cX9_settle 38 = .ok (.ldc 38, 2) := by decide +kernel
theorem dX9_settle_40 : decode cX9_settle 40 = .ok (.iastore, 1) := by decide +kernel
theorem dX9_settle_41 : decode cX9_settle 41 = .ok (.iinc 1 1, 3) := by decide +kernel
theorem dX9_settle_44 : decode cX9_settle 44 = .ok (.goto (-42), 3) := by decide +kernel
theorem dX9_settle_47 : decode cX9_settle 47 = .ok (.iconst 1, 1) := by decide +kernel
theorem dX9_settle_48 : decode cX9_settle 48 = .ok (.istore_n 1, 1) := by decide +kernel
theorem dX9_settle_49 : decode cX9_settle 49 = .ok (.iconst 0, 1) := by decide +kernel
theorem dX9_settle_50 : decode cX9_settle 50 = .ok (.istore_n 2, 1) := by decide +kernel
theorem dX9_settle_51 : decode cX9_settle 51 = .ok (.iload_n 1, 1) := by decide +kernel
theorem dX9_settle_52 : decode cX9_settle 52 = .ok (.ifCond .eq 92, 3) := by decide +kernel
theorem dX9_settle_55 : decode cX9_settle 55 = .ok (.iload_n 2, 1) := by decide +kernel
theorem dX9_settle_56 : decode cX9_settle 56 = .ok (.bipush 30, 2) := by decide +kernel
theorem dX9_settle_58 : decode cX9_settle 58 = .ok (.if_icmp .ge 86, 3) := by decide +kernel
theorem dX9_settle_61 : decode cX9_settle 61 = .ok (.iconst 0, 1) := by decide +kernel
theorem dX9_settle_62 : decode cX9_settle 62 = .ok (.istore_n 1, 1) := by decide +kernel
theorem dX9_settle_63 : decode cX9_settle 63 = .ok (.iconst 0, 1) := by decide +kernel
theorem dX9_settle_64 : decode cX9_settle 64 = .ok (.istore_n 3, 1) := by decide +kernel
theorem dX9_settle_65 : decode cX9_settle 65 = .ok (.iload_n 3, 1) := by decide +kernel
theorem dX9_settle_66 : decode cX9_settle 66 = .ok (.aload_n 0, 1) := by decide +kernel
theorem dX9_settle_67 : decode cX9_settle 67 = .ok (.getfield 18, 3) := by decide +kernel
theorem dX9_settle_70 : decode cX9_settle 70 = .ok (.invokevirtual 28, 3) := by decide +kernel
theorem dX9_settle_73 : decode cX9_settle 73 = .ok (.if_icmp .ge 65, 3) := by decide +kernel
theorem dX9_settle_76 : decode cX9_settle 76 = .ok (.aload_n 0, 1) := by decide +kernel
theorem dX9_settle_77 : decode cX9_settle 77 = .ok (.getfield 18, 3) := by decide +kernel
theorem dX9_settle_80 : decode cX9_settle 80 = .ok (.iload_n 3, 1) := by decide +kernel
theorem dX9_settle_81 : decode cX9_settle 81 = .ok (.invokevirtual 32, 3) := by decide +kernel
theorem dX9_settle_84 : decode cX9_settle 84 = .ok (.ifCond .ne 48, 3) := by decide +kernel
theorem dX9_settle_87 : decode cX9_settle 87 = .ok (.aload_n 0, 1) := by decide +kernel
theorem dX9_settle_88 : decode cX9_settle 88 = .ok (.getfield 9, 3) := by decide +kernel
theorem dX9_settle_91 : decode cX9_settle 91 = .ok (.iload_n 3, 1) := by decide +kernel
theorem dX9_settle_92 : decode cX9_settle 92 = .ok (.iaload, 1) := by decide +kernel
theorem dX9_settle_93 : decode cX9_settle 93 = .ok (.aload_n 0, 1) := by decide +kernel
theorem dX9_settle_94 : decode cX9_settle 94 = .ok (.iload_n 3, 1) := by decide +kernel
theorem dX9_settle_95 : decode cX9_settle 95 = .ok (.invokevirtual 39, 3) := by decide +kernel
theorem dX9_settle_98 : decode cX9_settle 98 = .ok (.invokestatic 43, 3) := by decide +kernel
theorem dX9_settle_101 : decode cX9_settle 101 = .ok (.istore 4, 2) := by decide +kernel
theorem dX9_settle_103 : decode cX9_settle 103 = .ok (.iload_n 1, 1) := by decide +kernel
theorem dX9_settle_104 : decode cX9_settle 104 = .ok (.ifCond .ne 14, 3) := by decide +kernel
theorem dX9_settle_107 : decode cX9_settle 107 = .ok (.iload 4, 2) := by decide +kernel
theorem dX9_settle_109 : decode cX9_settle 109 = .ok (.aload_n 0, 1) := by decide +kernel
theorem dX9_settle_110 : decode cX9_settle 110 = .ok (.getfield 15, 3) := by decide +kernel
theorem dX9_settle_113 : decode cX9_settle 113 = .ok (.iload_n 3, 1) := by decide +kernel
theorem dX9_settle_114 : decode cX9_settle 114 = .ok (.iaload, 1) := by decide +kernel
theorem dX9_settle_115 : decode cX9_settle 115 = .ok (.if_icmp .ge 7, 3) := by decide +kernel
theorem dX9_settle_118 : decode cX9_settle 118 = .ok (.iconst 1, 1) := by decide +kernel
theorem dX9_settle_119 : decode cX9_settle 119 = .ok (.goto 4, 3) := by decide +kernel
theorem dX9_settle_122 : decode cX9_settle 122 = .ok (.iconst 0, 1) := by decide +kernel
theorem dX9_settle_123 : decode cX9_settle 123 = .ok (.istore_n 1, 1) := by decide +kernel
theorem dX9_settle_124 : decode cX9_settle 124 = .ok (.aload_n 0, 1) := by decide +kernel
theorem dX9_settle_125 : decode cX9_settle 125 = .ok (.getfield 15, 3) := by decide +kernel
theorem dX9_settle_128 : decode cX9_settle 128 = .ok (.iload_n 3, 1) := by decide +kernel
theorem dX9_settle_129 : decode cX9_settle 129 = .ok (.iload 4, 2) := by decide +kernel
theorem dX9_settle_131 : decode cX9_settle 131 = .ok (.iastore, 1) := by decide +kernel
theorem dX9_settle_132 : decode cX9_settle 132 = .ok (.iinc 3 1, 3) := by decide +kernel
theorem dX9_settle_135 : decode cX9_settle 135 = .ok (.goto (-70), 3) := by decide +kernel
theorem dX9_settle_138 : decode cX9_settle 138 = .ok (.iinc 2 1, 3) := by decide +kernel
theorem dX9_settle_141 : decode cX9_settle 141 = .ok (.goto (-90), 3) := by decide +kernel
theorem dX9_settle_144 : decode cX9_settle 144 = .ok (.return_, 1) := by decide +kernel
theorem dX9_lowestBeside_0 : decode cX9_lowestBeside 0 = .ok (.ldc 38, 2) := by decide +kernel
theorem dX9_lowestBeside_2 : decode cX9_lowestBeside 2 = .ok (.istore_n 2, 1) := by decide +kernel
theorem dX9_lowestBeside_3 : decode cX9_lowestBeside 3 = .ok (.iconst 0, 1) := by decide +kernel
theorem dX9_lowestBeside_4 : decode cX9_lowestBeside 4 = .ok (.istore_n 3, 1) := by decide +kernel
theorem dX9_lowestBeside_5 : decode cX9_lowestBeside 5 = .ok (.iload_n 3, 1) := by decide +kernel
theorem dX9_lowestBeside_6 : decode cX9_lowestBeside 6 = .ok (.iconst 4, 1) := by decide +kernel
theorem dX9_lowestBeside_7 : decode cX9_lowestBeside 7 = .ok (.if_icmp .ge 39, 3) := by decide +kernel
theorem dX9_lowestBeside_10 : decode cX9_lowestBeside 10 = .ok (.aload_n 0, 1) := by decide +kernel
theorem dX9_lowestBeside_11 : decode cX9_lowestBeside 11 = .ok (.getfield 18, 3) := by decide +kernel
theorem dX9_lowestBeside_14 : decode cX9_lowestBeside 14 = .ok (.iload_n 1, 1) := by decide +kernel
theorem dX9_lowestBeside_15 : decode cX9_lowestBeside 15 = .ok (.iload_n 3, 1) := by decide +kernel
theorem dX9_lowestBeside_16 : decode cX9_lowestBeside 16 = .ok (.invokevirtual 49, 3) := by decide +kernel
theorem dX9_lowestBeside_19 : decode cX9_lowestBeside 19 = .ok (.istore 4, 2) := by decide +kernel
theorem dX9_lowestBeside_21 : decode cX9_lowestBeside 21 = .ok (.iload 4, 2) := by decide +kernel
theorem dX9_lowestBeside_23 : decode cX9_lowestBeside 23 = .ok (.bipush (-9), 2) := by decide +kernel
theorem dX9_lowestBeside_25 : decode cX9_lowestBeside 25 = .ok (.if_icmp .eq 15, 3) := by decide +kernel
theorem dX9_lowestBeside_28 : decode cX9_lowestBeside 28 = .ok (.iload_n 2, 1) := by decide +kernel
theorem dX9_lowestBeside_29 : decode cX9_lowestBeside 29 = .ok (.aload_n 0, 1) := by decide +kernel
theorem dX9_lowestBeside_30 : decode cX9_lowestBeside 30 = .ok (.getfield 15, 3) := by decide +kernel
theorem dX9_lowestBeside_33 : decode cX9_lowestBeside 33 = .ok (.iload 4, 2) := by decide +kernel
theorem dX9_lowestBeside_35 : decode cX9_lowestBeside 35 = .ok (.iaload, 1) := by decide +kernel
theorem dX9_lowestBeside_36 : decode cX9_lowestBeside 36 = .ok (.invokestatic 52, 3) := by decide +kernel
theorem dX9_lowestBeside_39 : decode cX9_lowestBeside 39 = .ok (.istore_n 2, 1) := by decide +kernel
theorem dX9_lowestBeside_40 : decode cX9_lowestBeside 40 = .ok (.iinc 3 1, 3) := by decide +kernel
theorem dX9_lowestBeside_43 : decode cX9_lowestBeside 43 = .ok (.goto (-38), 3) := by decide +kernel
theorem dX9_lowestBeside_46 : decode cX9_lowestBeside 46 = .ok (.iload_n 2, 1) := by decide +kernel
theorem dX9_lowestBeside_47 : decode cX9_lowestBeside 47 = .ok (.ireturn, 1) := by decide +kernel
theorem dX9_depthAt_0 : decode cX9_depthAt 0 = .ok (.aload_n 0, 1) := by decide +kernel
theorem dX9_depthAt_1 : decode cX9_depthAt 1 = .ok (.getfield 15, 3) := by decide +kernel
theorem dX9_depthAt_4 : decode cX9_depthAt 4 = .ok (.iload_n 1, 1) := by decide +kernel
theorem dX9_depthAt_5 : decode cX9_depthAt 5 = .ok (.iaload, 1) := by decide +kernel
theorem dX9_depthAt_6 : decode cX9_depthAt 6 = .ok (.aload_n 0, 1) := by decide +kernel
theorem dX9_depthAt_7 : decode cX9_depthAt 7 = .ok (.getfield 9, 3) := by decide +kernel
theorem dX9_depthAt_10 : decode cX9_depthAt 10 = .ok (.iload_n 1, 1) := by decide +kernel
theorem dX9_depthAt_11 : decode cX9_depthAt 11 = .ok (.iaload, 1) := by decide +kernel
theorem dX9_depthAt_12 : decode cX9_depthAt 12 = .ok (.isub, 1) := by decide +kernel
theorem dX9_depthAt_13 : decode cX9_depthAt 13 = .ok (.ireturn, 1) := by decide +kernel
theorem dX9_allDepths_0 : decode cX9_allDepths 0 = .ok (.aload_n 0, 1) := by decide +kernel
theorem dX9_allDepths_1 : decode cX9_allDepths 1 = .ok (.invokevirtual 55, 3) := by decide +kernel
theorem dX9_allDepths_4 : decode cX9_allDepths 4 = .ok (.iconst 0, 1) := by decide +kernel
theorem dX9_allDepths_5 : decode cX9_allDepths 5 = .ok (.istore_n 1, 1) := by decide +kernel
theorem dX9_allDepths_6 : decode cX9_allDepths 6 = .ok (.iconst 0, 1) := by decide +kernel
theorem dX9_allDepths_7 : decode cX9_allDepths 7 = .ok (.istore_n 2, 1) := by decide +kernel
theorem dX9_allDepths_8 : decode cX9_allDepths 8 = .ok (.iload_n 2, 1) := by decide +kernel
theorem dX9_allDepths_9 : decode cX9_allDepths 9 = .ok (.aload_n 0, 1) := by decide +kernel
theorem dX9_allDepths_10 : decode cX9_allDepths 10 = .ok (.getfield 18, 3) := by decide +kernel
theorem dX9_allDepths_13 : decode cX9_allDepths 13 = .ok (.invokevirtual 28, 3) := by decide +kernel
theorem dX9_allDepths_16 : decode cX9_allDepths 16 = .ok (.if_icmp .ge 17, 3) := by decide +kernel
theorem dX9_allDepths_19 : decode cX9_allDepths 19 = .ok (.iload_n 1, 1) := by decide +kernel
theorem dX9_allDepths_20 : decode cX9_allDepths 20 = .ok (.aload_n 0, 1) := by decide +kernel
theorem dX9_allDepths_21 : decode cX9_allDepths 21 = .ok (.iload_n 2, 1) := by decide +kernel
theorem dX9_allDepths_22 : decode cX9_allDepths 22 = .ok (.invokevirtual 58, 3) := by decide +kernel
theorem dX9_allDepths_25 : decode cX9_allDepths 25 = .ok (.iadd, 1) := by decide +kernel
theorem dX9_allDepths_26 : decode cX9_allDepths 26 = .ok (.istore_n 1, 1) := by decide +kernel
theorem dX9_allDepths_27 : decode cX9_allDepths 27 = .ok (.iinc 2 1, 3) := by decide +kernel
theorem dX9_allDepths_30 : decode cX9_allDepths 30 = .ok (.goto (-22), 3) := by decide +kernel
theorem dX9_allDepths_33 : decode cX9_allDepths 33 = .ok (.iload_n 1, 1) := by decide +kernel
theorem dX9_allDepths_34 : decode cX9_allDepths 34 = .ok (.ireturn, 1) := by decide +kernel
theorem dX9_poolIfLifted_0 : decode cX9_poolIfLifted 0 = .ok (.aload_n 0, 1) := by decide +kernel
theorem dX9_poolIfLifted_1 : decode cX9_poolIfLifted 1 = .ok (.getfield 9, 3) := by decide +kernel
theorem dX9_poolIfLifted_4 : decode cX9_poolIfLifted 4 = .ok (.iload_n 1, 1) := by decide +kernel
theorem dX9_poolIfLifted_5 : decode cX9_poolIfLifted 5 = .ok (.dup2, 1) := by decide +kernel
theorem dX9_poolIfLifted_6 : decode cX9_poolIfLifted 6 = .ok (.iaload, 1) := by decide +kernel
theorem dX9_poolIfLifted_7 : decode cX9_poolIfLifted 7 = .ok (.iload_n 2, 1) := by decide +kernel
theorem dX9_poolIfLifted_8 : decode cX9_poolIfLifted 8 = .ok (.iadd, 1) := by decide +kernel
theorem dX9_poolIfLifted_9 : decode cX9_poolIfLifted 9 = .ok (.iastore, 1) := by decide +kernel
theorem dX9_poolIfLifted_10 : decode cX9_poolIfLifted 10 = .ok (.aload_n 0, 1) := by decide +kernel
theorem dX9_poolIfLifted_11 : decode cX9_poolIfLifted 11 = .ok (.invokevirtual 61, 3) := by decide +kernel
theorem dX9_poolIfLifted_14 : decode cX9_poolIfLifted 14 = .ok (.istore_n 3, 1) := by decide +kernel
theorem dX9_poolIfLifted_15 : decode cX9_poolIfLifted 15 = .ok (.aload_n 0, 1) := by decide +kernel
theorem dX9_poolIfLifted_16 : decode cX9_poolIfLifted 16 = .ok (.getfield 9, 3) := by decide +kernel
theorem dX9_poolIfLifted_19 : decode cX9_poolIfLifted 19 = .ok (.iload_n 1, 1) := by decide +kernel
theorem dX9_poolIfLifted_20 : decode cX9_poolIfLifted 20 = .ok (.dup2, 1) := by decide +kernel
theorem dX9_poolIfLifted_21 : decode cX9_poolIfLifted 21 = .ok (.iaload, 1) := by decide +kernel
theorem dX9_poolIfLifted_22 : decode cX9_poolIfLifted 22 = .ok (.iload_n 2, 1) := by decide +kernel
theorem dX9_poolIfLifted_23 : decode cX9_poolIfLifted 23 = .ok (.isub, 1) := by decide +kernel
theorem dX9_poolIfLifted_24 : decode cX9_poolIfLifted 24 = .ok (.iastore, 1) := by decide +kernel
theorem dX9_poolIfLifted_25 : decode cX9_poolIfLifted 25 = .ok (.iload_n 3, 1) := by decide +kernel
theorem dX9_poolIfLifted_26 : decode cX9_poolIfLifted 26 = .ok (.ireturn, 1) := by decide +kernel
theorem dX9_bestLifted_0 : decode cX9_bestLifted 0 = .ok (.iconst 0, 1) := by decide +kernel
theorem dX9_bestLifted_1 : decode cX9_bestLifted 1 = .ok (.istore_n 2, 1) := by decide +kernel
theorem dX9_bestLifted_2 : decode cX9_bestLifted 2 = .ok (.aload_n 0, 1) := by decide +kernel
theorem dX9_bestLifted_3 : decode cX9_bestLifted 3 = .ok (.iconst 0, 1) := by decide +kernel
theorem dX9_bestLifted_4 : decode cX9_bestLifted 4 = .ok (.iload_n 1, 1) := by decide +kernel
theorem dX9_bestLifted_5 : decode cX9_bestLifted 5 = .ok (.invokevirtual 64, 3) := by decide +kernel
theorem dX9_bestLifted_8 : decode cX9_bestLifted 8 = .ok (.istore_n 3, 1) := by decide +kernel
theorem dX9_bestLifted_9 : decode cX9_bestLifted 9 = .ok (.iconst 1, 1) := by decide +kernel
theorem dX9_bestLifted_10 : decode cX9_bestLifted 10 = .ok (.istore 4, 2) := by decide +kernel
theorem dX9_bestLifted_12 : decode cX9_bestLifted 12 = .ok (.iload 4, 2) := by decide +kernel
theorem dX9_bestLifted_14 : decode cX9_bestLifted 14 = .ok (.aload_n 0, 1) := by decide +kernel
theorem dX9_bestLifted_15 : decode cX9_bestLifted 15 = .ok (.getfield 18, 3) := by decide +kernel
theorem dX9_bestLifted_18 : decode cX9_bestLifted 18 = .ok (.invokevirtual 28, 3) := by decide +kernel
theorem dX9_bestLifted_21 : decode cX9_bestLifted 21 = .ok (.if_icmp .ge 30, 3) := by decide +kernel
theorem dX9_bestLifted_24 : decode cX9_bestLifted 24 = .ok (.aload_n 0, 1) := by decide +kernel
theorem dX9_bestLifted_25 : decode cX9_bestLifted 25 = .ok (.iload 4, 2) := by decide +kernel
theorem dX9_bestLifted_27 : decode cX9_bestLifted 27 = .ok (.iload_n 1, 1) := by decide +kernel
theorem dX9_bestLifted_28 : decode cX9_bestLifted 28 = .ok (.invokevirtual 64, 3) := by decide +kernel
theorem dX9_bestLifted_31 : decode cX9_bestLifted 31 = .ok (.istore 5, 2) := by decide +kernel
theorem dX9_bestLifted_33 : decode cX9_bestLifted 33 = .ok (.iload 5, 2) := by decide +kernel
theorem dX9_bestLifted_35 : decode cX9_bestLifted 35 = .ok (.iload_n 3, 1) := by decide +kernel
theorem dX9_bestLifted_36 : decode cX9_bestLifted 36 = .ok (.if_icmp .ge 9, 3) := by decide +kernel
theorem dX9_bestLifted_39 : decode cX9_bestLifted 39 = .ok (.iload 4, 2) := by decide +kernel
theorem dX9_bestLifted_41 : decode cX9_bestLifted 41 = .ok (.istore_n 2, 1) := by decide +kernel
theorem dX9_bestLifted_42 : decode cX9_bestLifted 42 = .ok (.iload 5, 2) := by decide +kernel
theorem dX9_bestLifted_44 : decode cX9_bestLifted 44 = .ok (.istore_n 3, 1) := by decide +kernel
theorem dX9_bestLifted_45 : decode cX9_bestLifted 45 = .ok (.iinc 4 1, 3) := by decide +kernel
theorem dX9_bestLifted_48 : decode cX9_bestLifted 48 = .ok (.goto (-36), 3) := by decide +kernel
theorem dX9_bestLifted_51 : decode cX9_bestLifted 51 = .ok (.iload_n 2, 1) := by decide +kernel
theorem dX9_bestLifted_52 : decode cX9_bestLifted 52 = .ok (.ireturn, 1) := by decide +kernel
theorem dX10_init_0 : decode cX10_init 0 = .ok (.aload_n 0, 1) := by decide +kernel
theorem dX10_init_1 : decode cX10_init 1 = .ok (.invokespecial 3, 3) := by decide +kernel
theorem dX10_init_4 : decode cX10_init 4 = .ok (.aload_n 0, 1) := by decide +kernel
theorem dX10_init_5 : decode cX10_init 5 = .ok (.bipush 30, 2) := by decide +kernel
theorem dX10_init_7 : decode cX10_init 7 = .ok (.newarray .int, 2) := by decide +kernel
theorem dX10_init_9 : decode cX10_init 9 = .ok (.putfield 9, 3) := by decide +kernel
theorem dX10_init_12 : decode cX10_init 12 = .ok (.aload_n 0, 1) := by decide +kernel
theorem dX10_init_13 : decode cX10_init 13 = .ok (.bipush 30, 2) := by decide +kernel
theorem dX10_init_15 : decode cX10_init 15 = .ok (.newarray .int, 2) := by decide +kernel
theorem dX10_init_17 : decode cX10_init 17 = .ok (.putfield 15, 3) := by decide +kernel
theorem dX10_init_20 : decode cX10_init 20 = .ok (.aload_n 0, 1) := by decide +kernel
theorem dX10_init_21 : decode cX10_init 21 = .ok (.bipush 30, 2) := by decide +kernel
theorem dX10_init_23 : decode cX10_init 23 = .ok (.newarray .int, 2) := by decide +kernel
theorem dX10_init_25 : decode cX10_init 25 = .ok (.putfield 18, 3) := by decide +kernel
theorem dX10_init_28 : decode cX10_init 28 = .ok (.aload_n 0, 1) := by decide +kernel
theorem dX10_init_29 : decode cX10_init 29 = .ok (.bipush 30, 2) := by decide +kernel
theorem dX10_init_31 : decode cX10_init 31 = .ok (.newarray .int, 2) := by decide +kernel
theorem dX10_init_33 : decode cX10_init 33 = .ok (.putfield 21, 3) := by decide +kernel
theorem dX10_init_36 : decode cX10_init 36 = .ok (.aload_n 0, 1) := by decide +kernel
theorem dX10_init_37 : decode cX10_init 37 = .ok (.bipush 30, 2) := by decide +kernel
theorem dX10_init_39 : decode cX10_init 39 = .ok (.newarray .int, 2) := by decide +kernel
theorem dX10_init_41 : decode cX10_init 41 = .ok (.putfield 24, 3) := by decide +kernel
theorem dX10_init_44 : decode cX10_init 44 = .ok (.aload_n 0, 1) := by decide +kernel
theorem dX10_init_45 : decode cX10_init 45 = .ok (.aload_n 1, 1) := by decide +kernel
theorem dX10_init_46 : decode cX10_init 46 = .ok (.putfield 27, 3) := by decide +kernel
theorem dX10_init_49 : decode cX10_init 49 = .ok (.return_, 1) := by decide +kernel
theorem dX10_measure_0 : decode cX10_measure 0 = .ok (.iconst 0, 1) := by decide +kernel
theorem dX10_measure_1 : decode cX10_measure 1 = .ok (.istore_n 3, 1) := by decide +kernel
theorem dX10_measure_2 : decode cX10_measure 2 = .ok (.iload_n 3, 1) := by decide +kernel
theorem dX10_measure_3 : decode cX10_measure 3 = .ok (.aload_n 0, 1) := by decide +kernel
theorem dX10_measure_4 : decode cX10_measure 4 = .ok (.getfield 27, 3) := by decide +kernel
theorem dX10_measure_7 : decode cX10_measure 7 = .ok (.invokevirtual 31, 3) := by decide +kernel
theorem dX10_measure_10 : decode cX10_measure 10 = .ok (.if_icmp .ge 23, 3) := by decide +kernel
theorem dX10_measure_13 : decode cX10_measure 13 = .ok (.aload_n 0, 1) := by decide +kernel
theorem dX10_measure_14 : decode cX10_measure 14 = .ok (.getfield 15, 3) := by decide +kernel
theorem dX10_measure_17 : decode cX10_measure 17 = .ok (.iload_n 3, 1) := by decide +kernel
theorem dX10_measure_18 : decode cX10_measure 18 = .ok (.iconst 0, 1) := by decide +kernel
theorem dX10_measure_19 : decode cX10_measure 19 = .ok (.iastore, 1) := by decide +kernel
theorem dX10_measure_20 : decode cX10_measure 20 = .ok (.aload_n 0, 1) := by decide +kernel
theorem dX10_measure_21 : decode cX10_measure 21 = .ok (.getfield 18, 3) := by decide +kernel
theorem dX10_measure_24 : decode cX10_measure 24 = .ok (.iload_n 3, 1) := by decide +kernel
theorem dX10_measure_25 : decode cX10_measure 25 = .ok (.iconst 0, 1) := by decide +kernel
theorem dX10_measure_26 : decode cX10_measure 26 = .ok (.iastore, 1) := by decide +kernel
theorem dX10_measure_27 : decode cX10_measure 27 = .ok (.iinc 3 1, 3) := by decide +kernel
theorem dX10_measure_30 : decode cX10_measure 30 = .ok (.goto (-28), 3) := by decide +kernel
theorem dX10_measure_33 : decode cX10_measure 33 = .ok (.iload_n 1, 1) := by decide +kernel
theorem dX10_measure_34 : decode cX10_measure 34 = .ok (.istore_n 3, 1) := by decide +kernel
theorem dX10_measure_35 : decode cX10_measure 35 = .ok (.iload_n 3, 1) := by decide +kernel
theorem dX10_measure_36 : decode cX10_measure 36 = .ok (.iload_n 2, 1) := by decide +kernel
theorem dX10_measure_37 : decode cX10_measure 37 = .ok (.if_icmp .gt 108, 3) := by decide +kernel
theorem dX10_measure_40 : decode cX10_measure 40 = .ok (.aload_n 0, 1) := by decide +kernel
theorem dX10_measure_41 : decode cX10_measure 41 = .ok (.getfield 27, 3) := by decide +kernel
theorem dX10_measure_44 : decode cX10_measure 44 = .ok (.iload_n 3, 1) := by decide +kernel
theorem dX10_measure_45 : decode cX10_measure 45 = .ok (.aload_n 0, 1) := by decide +kernel
theorem dX10_measure_46 : decode cX10_measure 46 = .ok (.getfield 9, 3) := by decide +kernel
theorem dX10_measure_49 : decode cX10_measure 49 = .ok (.invokevirtual 37, 3) := by decide +kernel
theorem dX10_measure_52 : decode cX10_measure 52 = .ok (.iconst 0, 1) := by decide +kernel
theorem dX10_measure_53 : decode cX10_measure 53 = .ok (.istore 4, 2) := by decide +kernel
theorem dX10_measure_55 : decode cX10_measure 55 = .ok (.iload 4, 2) := by decide +kernel
theorem dX10_measure_57 : decode cX10_measure 57 = .ok (.aload_n 0, 1) := by decide +kernel
theorem dX10_measure_58 : decode cX10_measure 58 = .ok (.getfield 27, 3) := by decide +kernel
theorem dX10_measure_61 : decode cX10_measure 61 = .ok (.invokevirtual 31, 3) := by decide +kernel
theorem dX10_measure_64 : decode cX10_measure 64 = .ok (.if_icmp .ge 75, 3) := by decide +kernel
theorem dX10_measure_67 : decode cX10_measure 67 = .ok (.aload_n 0, 1) := by decide +kernel
theorem dX10_measure_68 : decode cX10_measure 68 = .ok (.getfield 15, 3) := by decide +kernel
theorem dX10_measure_71 : decode cX10_measure 71 = .ok (.iload 4, 2) := by decide +kernel
theorem dX10_measure_73 : decode cX10_measure 73 = .ok (.aload_n 0, 1) := by decide +kernel
theorem dX10_measure_74 : decode cX10_measure 74 = .ok (.getfield 15, 3) := by decide +kernel
theorem dX10_measure_77 : decode cX10_measure 77 = .ok (.iload 4, 2) := by decide +kernel
theorem dX10_measure_79 : decode cX10_measure 79 = .ok (.iaload, 1) := by decide +kernel
theorem dX10_measure_80 : decode cX10_measure 80 = .ok (.aload_n 0, 1) := by decide +kernel
theorem dX10_measure_81 : decode cX10_measure 81 = .ok (.iload 4, 2) := by decide +kernel
theorem dX10_measure_83 : decode cX10_measure 83 = .ok (.aload_n 0, 1) := by decide +kernel
theorem dX10_measure_84 : decode cX10_measure 84 = .ok (.getfield 27, 3) := by decide +kernel
theorem dX10_measure_87 : decode cX10_measure 87 = .ok (.iload 4, 2) := by decide +kernel
theorem dX10_measure_89 : decode cX10_measure 89 = .ok (.iconst 2, 1) := by decide +kernel
theorem dX10_measure_90 : decode cX10_measure 90 = .ok (.invokevirtual 41, 3) := by decide +kernel
theorem dX10_measure_93 : decode cX10_measure 93 = .ok (.invokevirtual 45, 3) := by decide +kernel
theorem dX10_measure_96 : decode cX10_measure 96 = .ok (.invokestatic 48, 3) := by decide +kernel
theorem dX10_measure_99 : decode cX10_measure 99 = .ok (.iastore, 1) := by decide +kernel
theorem dX10_measure_100 : decode cX10_measure 100 = .ok (.aload_n 0, 1) := by decide +kernel
theorem dX10_measure_101 : decode cX10_measure 101 = .ok (.getfield 18, 3) := by decide +kernel
theorem dX10_measure_104 : decode cX10_measure 104 = .ok (.iload 4, 2) := by decide +kernel
theorem dX10_measure_106 : decode cX10_measure 106 = .ok (.aload_n 0, 1) := by decide +kernel
theorem dX10_measure_107 : decode cX10_measure 107 = .ok (.getfield 18, 3) := by decide +kernel
theorem dX10_measure_110 : decode cX10_measure 110 = .ok (.iload 4, 2) := by decide +kernel
theorem dX10_measure_112 : decode cX10_measure 112 = .ok (.iaload, 1) := by decide +kernel
theorem dX10_measure_113 : decode cX10_measure 113 = .ok (.aload_n 0, 1) := by decide +kernel
theorem dX10_measure_114 : decode cX10_measure 114 = .ok (.iload 4, 2) := by decide +kernel
theorem dX10_measure_116 : decode cX10_measure 116 = .ok (.aload_n 0, 1) := by decide +kernel
theorem dX10_measure_117 : decode cX10_measure 117 = .ok (.getfield 27, 3) := by decide +kernel
theorem dX10_measure_120 : decode cX10_measure 120 = .ok (.iload 4, 2) := by decide +kernel
theorem dX10_measure_122 : decode cX10_measure 122 = .ok (.iconst 3, 1) := by decide +kernel
theorem dX10_measure_123 : decode cX10_measure 123 = .ok (.invokevirtual 41, 3) := by decide +kernel
theorem dX10_measure_126 : decode cX10_measure 126 = .ok (.invokevirtual 45, 3) := by decide +kernel
theorem dX10_measure_129 : decode cX10_measure 129 = .ok (.invokestatic 48, 3) := by decide +kernel
theorem dX10_measure_132 : decode cX10_measure 132 = .ok (.iastore, 1) := by decide +kernel
theorem dX10_measure_133 : decode cX10_measure 133 = .ok (.iinc 4 1, 3) := by decide +kernel
theorem dX10_measure_136 : decode cX10_measure 136 = .ok (.goto (-81), 3) := by decide +kernel
theorem dX10_measure_139 : decode cX10_measure 139 = .ok (.iinc 3 1, 3) := by decide +kernel
theorem dX10_measure_142 : decode cX10_measure 142 = .ok (.goto (-107), 3) := by decide +kernel
theorem dX10_measure_145 : decode cX10_measure 145 = .ok (.return_, 1) := by decide +kernel
theorem dX10_apartTo_0 : decode cX10_apartTo 0 = .ok (.iload_n 2, 1) := by decide +kernel
theorem dX10_apartTo_1 : decode cX10_apartTo 1 = .ok (.bipush (-9), 2) := by decide +kernel
theorem dX10_apartTo_3 : decode cX10_apartTo 3 = .ok (.if_icmp .ne 7, 3) := by decide +kernel
theorem dX10_apartTo_6 : decode cX10_apartTo 6 = .ok (.iconst 0, 1) := by decide +kernel
theorem dX10_apartTo_7 : decode cX10_apartTo 7 = .ok (.goto 19, 3) := by decide +kernel
theorem dX10_apartTo_10 : decode cX10_apartTo 10 = .ok (.aload_n 0, 1) := by decide +kernel
theorem dX10_apartTo_11 : decode cX10_apartTo 11 = .ok (.getfield 9, 3) := by decide +kernel
theorem dX10_apartTo_14 : decode cX10_apartTo 14 = .ok (.iload_n 1, 1) := by decide +kernel
theorem dX10_apartTo_15 : decode cX10_apartTo 15 = .ok (.iaload, 1) := by decide +kernel
theorem dX10_apartTo_16 : decode cX10_apartTo 16 = .ok (.aload_n 0, 1) := by decide +kernel
theorem dX10_apartTo_17 : decode cX10_apartTo 17 = .ok (.getfield 9, 3) := by decide +kernel
theorem dX10_apartTo_20 : decode cX10_apartTo 20 = .ok (.iload_n 2, 1) := by decide +kernel
theorem dX10_apartTo_21 : decode cX10_apartTo 21 = .ok (.iaload, 1) := by decide +kernel
theorem dX10_apartTo_22 : decode cX10_apartTo 22 = .ok (.isub, 1) := by decide +kernel
theorem dX10_apartTo_23 : decode cX10_apartTo 23 = .ok (.invokestatic 53, 3) := by decide +kernel
theorem dX10_apartTo_26 : decode cX10_apartTo 26 = .ok (.ireturn, 1) := by decide +kernel
theorem dX10_stepAt_0 : decode cX10_stepAt 0 = .ok (.iload_n 2, 1) := by decide +kernel
theorem dX10_stepAt_1 : decode cX10_stepAt 1 = .ok (.ifCond .ne 10, 3) := by decide +kernel
theorem dX10_stepAt_4 : decode cX10_stepAt 4 = .ok (.aload_n 0, 1) := by decide +kernel
theorem dX10_stepAt_5 : decode cX10_stepAt 5 = .ok (.getfield 18, 3) := by decide +kernel
theorem dX10_stepAt_8 : decode cX10_stepAt 8 = .ok (.iload_n 3, 1) := by decide +kernel
theorem dX10_stepAt_9 : decode cX10_stepAt 9 = .ok (.iaload, 1) := by decide +kernel
theorem dX10_stepAt_10 : decode cX10_stepAt 10 = .ok (.ireturn, 1) := by decide +kernel
theorem dX10_stepAt_11 : decode cX10_stepAt 11 = .ok (.iload_n 2, 1) := by decide +kernel
theorem dX10_stepAt_12 : decode cX10_stepAt 12 = .ok (.iconst 1, 1) := by decide +kernel
theorem dX10_stepAt_13 : decode cX10_stepAt 13 = .ok (.if_icmp .ne 10, 3) := by decide +kernel
theorem dX10_stepAt_16 : decode cX10_stepAt 16 = .ok (.aload_n 0, 1) := by decide +kernel
theorem dX10_stepAt_17 : decode cX10_stepAt 17 = .ok (.getfield 15, 3) := by decide +kernel
theorem dX10_stepAt_20 : decode cX10_stepAt 20 = .ok (.iload_n 3, 1) := by decide +kernel
theorem dX10_stepAt_21 : decode cX10_stepAt 21 = .ok (.iaload, 1) := by decide +kernel
theorem dX10_stepAt_22 : decode cX10_stepAt 22 = .ok (.ireturn, 1) := by decide +kernel
theorem dX10_stepAt_23 : decode cX10_stepAt 23 = .ok (.iload_n 2, 1) := by decide +kernel
theorem dX10_stepAt_24 : decode cX10_stepAt 24 = .ok (.iconst 2, 1) := by decide +kernel
theorem dX10_stepAt_25 : decode cX10_stepAt 25 = .ok (.if_icmp .ne 12, 3) := by decide +kernel
theorem dX10_stepAt_28 : decode cX10_stepAt 28 = .ok (.aload_n 0, 1) := by decide +kernel
theorem dX10_stepAt_29 : decode cX10_stepAt 29 = .ok (.getfield 15, 3) := by decide +kernel
theorem dX10_stepAt_32 : decode cX10_stepAt 32 = .ok (.iload_n 1, 1) := by decide +kernel
theorem dX10_stepAt_33 : decode cX10_stepAt 33 = .ok (.iaload, 1) := by decide +kernel
theorem dX10_stepAt_34 : decode cX10_stepAt 34 = .ok (.goto 9, 3) := by decide +kernel
theorem dX10_stepAt_37 : decode cX10_stepAt 37 = .ok (.aload_n 0, 1) := by decide +kernel
theorem dX10_stepAt_38 : decode cX10_stepAt 38 = .ok (.getfield 18, 3) := by decide +kernel
theorem dX10_stepAt_41 : decode cX10_stepAt 41 = .ok (.iload_n 1, 1) := by decide +kernel
theorem dX10_stepAt_42 : decode cX10_stepAt 42 = .ok (.iaload, 1) := by decide +kernel
theorem dX10_stepAt_43 : decode cX10_stepAt 43 = .ok (.ireturn, 1) := by decide +kernel
theorem dX10_countStepsTo_0 : decode cX10_countStepsTo 0 = .ok (.iconst 0, 1) := by decide +kernel
theorem dX10_countStepsTo_1 : decode cX10_countStepsTo 1 = .ok (.istore_n 3, 1) := by decide +kernel
theorem dX10_countStepsTo_2 : decode cX10_countStepsTo 2 = .ok (.iload_n 3, 1) := by decide +kernel
theorem dX10_countStepsTo_3 : decode cX10_countStepsTo 3 = .ok (.aload_n 0, 1) := by decide +kernel
theorem dX10_countStepsTo_4 : decode cX10_countStepsTo 4 = .ok (.getfield 27, 3) := by decide +kernel
theorem dX10_countStepsTo_7 : decode cX10_countStepsTo 7 = .ok (.invokevirtual 31, 3) := by decide +kernel
theorem dX10_countStepsTo_10 : decode cX10_countStepsTo 10 = .ok (.if_icmp .ge 17, 3) := by decide +kernel
theorem dX10_countStepsTo_13 : decode cX10_countStepsTo 13 = .ok (.aload_n 0, 1) := by decide +kernel
theorem dX10_countStepsTo_14 : decode cX10_countStepsTo 14 = .ok (.getfield 21, 3) := by decide +kernel
theorem dX10_countStepsTo_17 : decode cX10_countStepsTo 17 = .ok (.iload_n 3, 1) := by decide +kernel
theorem dX10_countStepsTo_18 : decode cX10_countStepsTo 18 = .ok (.bipush (-9), 2) := by decide +kernel
theorem dX10_countStepsTo_20 : decode cX10_countStepsTo 20 = .ok (.iastore, 1) := by decide +kernel
theorem dX10_countStepsTo_21 : decode cX10_countStepsTo 21 = .ok (.iinc 3 1, 3) := by decide +kernel
theorem dX10_countStepsTo_24 : decode cX10_countStepsTo 24 = .ok (.goto (-22), 3) := by decide +kernel
theorem dX10_countStepsTo_27 : decode cX10_countStepsTo 27 = .ok (.aload_n 0, 1) := by decide +kernel
theorem dX10_countStepsTo_28 : decode cX10_countStepsTo 28 = .ok (.getfield 21, 3) := by decide +kernel
theorem dX10_countStepsTo_31 : decode cX10_countStepsTo 31 = .ok (.iload_n 1, 1) := by decide +kernel
theorem dX10_countStepsTo_32 : decode cX10_countStepsTo 32 = .ok (.iconst 0, 1) := by decide +kernel
theorem dX10_countStepsTo_33 : decode cX10_countStepsTo 33 = .ok (.iastore, 1) := by decide +kernel
theorem dX10_countStepsTo_34 : decode cX10_countStepsTo 34 = .ok (.aload_n 0, 1) := by decide +kernel
theorem dX10_countStepsTo_35 : decode cX10_countStepsTo 35 = .ok (.getfield 24, 3) := by decide +kernel
theorem dX10_countStepsTo_38 : decode cX10_countStepsTo 38 = .ok (.iconst 0, 1) := by decide +kernel
theorem dX10_countStepsTo_39 : decode cX10_countStepsTo 39 = .ok (.iload_n 1, 1) := by decide +kernel
theorem dX10_countStepsTo_40 : decode cX10_countStepsTo 40 = .ok (.iastore, 1) := by decide +kernel
theorem dX10_countStepsTo_41 : decode cX10_countStepsTo 41 = .ok (.iconst 1, 1) := by decide +kernel
theorem dX10_countStepsTo_42 : decode cX10_countStepsTo 42 = .ok (.istore_n 3, 1) := by decide +kernel
theorem dX10_countStepsTo_43 : decode cX10_countStepsTo 43 = .ok (.iconst 0, 1) := by decide +kernel
theorem dX10_countStepsTo_44 : decode cX10_countStepsTo 44 = .ok (.istore 4, 2) := by decide +kernel
theorem dX10_countStepsTo_46 : decode cX10_countStepsTo 46 = .ok (.iload 4, 2) := by decide +kernel
theorem dX10_countStepsTo_48 : decode cX10_countStepsTo 48 = .ok (.iload_n 3, 1) := by decide +kernel
theorem dX10_countStepsTo_49 : decode cX10_countStepsTo 49 = .ok (.if_icmp .ge 113, 3) := by decide +kernel
theorem dX10_countStepsTo_52 : decode cX10_countStepsTo 52 = .ok (.iload 4, 2) := by decide +kernel
theorem dX10_countStepsTo_54 : decode cX10_countStepsTo 54 = .ok (.bipush 30, 2) := by decide +kernel
theorem dX10_countStepsTo_56 : decode cX10_countStepsTo 56 = .ok (.if_icmp .ge 106, 3) := by decide +kernel
theorem dX10_countStepsTo_59 : decode cX10_countStepsTo 59 = .ok (.aload_n 0, 1) := by decide +kernel
theorem dX10_countStepsTo_60 : decode cX10_countStepsTo 60 = .ok (.getfield 24, 3) := by decide +kernel
theorem dX10_countStepsTo_63 : decode cX10_countStepsTo 63 = .ok (.iload 4, 2) := by decide +kernel
theorem dX10_countStepsTo_65 : decode cX10_countStepsTo 65 = .ok (.iaload, 1) := by decide +kernel
theorem dX10_countStepsTo_66 : decode cX10_countStepsTo 66 = .ok (.istore 5, 2) := by decide +kernel
theorem dX10_countStepsTo_68 : decode cX10_countStepsTo 68 = .ok (.iconst 0, 1) := by decide +kernel
theorem dX10_countStepsTo_69 : decode cX10_countStepsTo 69 = .ok (.istore 6, 2) := by decide +kernel
theorem dX10_countStepsTo_71 : decode cX10_countStepsTo 71 = .ok (.iload 6, 2) := by decide +kernel
theorem dX10_countStepsTo_73 : decode cX10_countStepsTo 73 = .ok (.iconst 4, 1) := by decide +kernel
theorem dX10_countStepsTo_74 : decode cX10_countStepsTo 74 = .ok (.if_icmp .ge 82, 3) := by decide +kernel
theorem dX10_countStepsTo_77 : decode cX10_countStepsTo 77 = .ok (.aload_n 0, 1) := by decide +kernel
theorem dX10_countStepsTo_78 : decode cX10_countStepsTo 78 = .ok (.getfield 27, 3) := by decide +kernel
theorem dX10_countStepsTo_81 : decode cX10_countStepsTo 81 = .ok (.iload 5, 2) := by decide +kernel
theorem dX10_countStepsTo_83 : decode cX10_countStepsTo 83 = .ok (.iload 6, 2) := by decide +kernel
theorem dX10_countStepsTo_85 : decode cX10_countStepsTo 85 = .ok (.invokevirtual 41, 3) := by decide +kernel
theorem dX10_countStepsTo_88 : decode cX10_countStepsTo 88 = .ok (.istore 7, 2) := by decide +kernel
theorem dX10_countStepsTo_90 : decode cX10_countStepsTo 90 = .ok (.iload 7, 2) := by decide +kernel
theorem dX10_countStepsTo_92 : decode cX10_countStepsTo 92 = .ok (.bipush (-9), 2) := by decide +kernel
theorem dX10_countStepsTo_94 : decode cX10_countStepsTo 94 = .ok (.if_icmp .eq 56, 3) := by decide +kernel
theorem dX10_countStepsTo_97 : decode cX10_countStepsTo 97 = .ok (.aload_n 0, 1) := by decide +kernel
theorem dX10_countStepsTo_98 : decode cX10_countStepsTo 98 = .ok (.getfield 21, 3) := by decide +kernel
theorem dX10_countStepsTo_101 : decode cX10_countStepsTo 101 = .ok (.iload 7, 2) := by decide +kernel
theorem dX10_countStepsTo_103 : decode cX10_countStepsTo 103 = .ok (.iaload, 1) := by decide +kernel
theorem dX10_countStepsTo_104 : decode cX10_countStepsTo 104 = .ok (.bipush (-9), 2) := by decide +kernel
theorem dX10_countStepsTo_106 : decode cX10_countStepsTo 106 = .ok (.if_icmp .ne 44, 3) := by decide +kernel
theorem dX10_countStepsTo_109 : decode cX10_countStepsTo 109 = .ok (.aload_n 0, 1) := by decide +kernel
theorem dX10_countStepsTo_110 : decode cX10_countStepsTo 110 = .ok (.iload 5, 2) := by decide +kernel
theorem dX10_countStepsTo_112 : decode cX10_countStepsTo 112 = .ok (.iload 6, 2) := by decide +kernel
theorem dX10_countStepsTo_114 : decode cX10_countStepsTo 114 = .ok (.iload 7, 2) := by decide +kernel
theorem dX10_countStepsTo_116 : decode cX10_countStepsTo 116 = .ok (.invokevirtual 57, 3) := by decide +kernel
theorem dX10_countStepsTo_119 : decode cX10_countStepsTo 119 = .ok (.iload_n 2, 1) := by decide +kernel
theorem dX10_countStepsTo_120 : decode cX10_countStepsTo 120 = .ok (.if_icmp .gt 30, 3) := by decide +kernel
theorem dX10_countStepsTo_123 : decode cX10_countStepsTo 123 = .ok (.aload_n 0, 1) := by decide +kernel
theorem dX10_countStepsTo_124 : decode cX10_countStepsTo 124 = .ok (.getfield 21, 3) := by decide +kernel
theorem dX10_countStepsTo_127 : decode cX10_countStepsTo 127 = .ok (.iload 7, 2) := by decide +kernel
theorem dX10_countStepsTo_129 : decode cX10_countStepsTo 129 = .ok (.aload_n 0, 1) := by decide +kernel
theorem dX10_countStepsTo_130 : decode cX10_countStepsTo 130 = .ok (.getfield 21, 3) := by decide +kernel
theorem dX10_countStepsTo_133 : decode cX10_countStepsTo 133 = .ok (.iload 5, 2) := by decide +kernel
theorem dX10_countStepsTo_135 : decode cX10_countStepsTo 135 = .ok (.iaload, 1) := by decide +kernel
theorem dX10_countStepsTo_136 : decode cX10_countStepsTo 136 = .ok (.iconst 1, 1) := by decide +kernel
theorem dX10_countStepsTo_137 : decode cX10_countStepsTo 137 = .ok (.iadd, 1) := by decide +kernel
theorem dX10_countStepsTo_138 : decode cX10_countStepsTo 138 = .ok (.iastore, 1) := by decide +kernel
theorem dX10_countStepsTo_139 : decode cX10_countStepsTo 139 = .ok (.aload_n 0, 1) := by decide +kernel
theorem dX10_countStepsTo_140 : decode cX10_countStepsTo 140 = .ok (.getfield 24, 3) := by decide +kernel
theorem dX10_countStepsTo_143 : decode cX10_countStepsTo 143 = .ok (.iload_n 3, 1) := by decide +kernel
theorem dX10_countStepsTo_144 : decode cX10_countStepsTo 144 = .ok (.iload 7, 2) := by decide +kernel
theorem dX10_countStepsTo_146 : decode cX10_countStepsTo 146 = .ok (.iastore, 1) := by decide +kernel
theorem dX10_countStepsTo_147 : decode cX10_countStepsTo 147 = .ok (.iinc 3 1, 3) := by decide +kernel
theorem dX10_countStepsTo_150 : decode cX10_countStepsTo 150 = .ok (.iinc 6 1, 3) := by decide +kernel
theorem dX10_countStepsTo_153 : decode cX10_countStepsTo 153 = .ok (.goto (-82), 3) := by decide +kernel
theorem dX10_countStepsTo_156 : decode cX10_countStepsTo 156 = .ok (.iinc 4 1, 3) := by decide +kernel
theorem dX10_countStepsTo_159 : decode cX10_countStepsTo 159 = .ok (.goto (-113), 3) := by decide +kernel
theorem dX10_countStepsTo_162 : decode cX10_countStepsTo 162 = .ok (.return_, 1) := by decide +kernel
theorem dX10_stoneBehind_0 : decode cX10_stoneBehind 0 = .ok (.iload_n 3, 1) := by decide +kernel
theorem dX10_stoneBehind_1 : decode cX10_stoneBehind 1 = .ok (.aload_n 0, 1) := by decide +kernel
theorem dX10_stoneBehind_2 : decode cX10_stoneBehind 2 = .ok (.getfield 21, 3) := by decide +kernel
theorem dX10_stoneBehind_5 : decode cX10_stoneBehind 5 = .ok (.iload_n 1, 1) := by decide +kernel
theorem dX10_stoneBehind_6 : decode cX10_stoneBehind 6 = .ok (.iaload, 1) := by decide +kernel
theorem dX10_stoneBehind_7 : decode cX10_stoneBehind 7 = .ok (.if_icmp .le 6, 3) := by decide +kernel
theorem dX10_stoneBehind_10 : decode cX10_stoneBehind 10 = .ok (.bipush (-9), 2) := by decide +kernel
theorem dX10_stoneBehind_12 : decode cX10_stoneBehind 12 = .ok (.ireturn, 1) := by decide +kernel
theorem dX10_stoneBehind_13 : decode cX10_stoneBehind 13 = .ok (.iload_n 1, 1) := by decide +kernel
theorem dX10_stoneBehind_14 : decode cX10_stoneBehind 14 = .ok (.istore 4, 2) := by decide +kernel
theorem dX10_stoneBehind_16 : decode cX10_stoneBehind 16 = .ok (.iconst 0, 1) := by decide +kernel
theorem dX10_stoneBehind_17 : decode cX10_stoneBehind 17 = .ok (.istore 5, 2) := by decide +kernel
theorem dX10_stoneBehind_19 : decode cX10_stoneBehind 19 = .ok (.iload 5, 2) := by decide +kernel
theorem dX10_stoneBehind_21 : decode cX10_stoneBehind 21 = .ok (.iload_n 3, 1) := by decide +kernel
theorem dX10_stoneBehind_22 : decode cX10_stoneBehind 22 = .ok (.if_icmp .ge 18, 3) := by decide +kernel
theorem dX10_stoneBehind_25 : decode cX10_stoneBehind 25 = .ok (.aload_n 0, 1) := by decide +kernel
theorem dX10_stoneBehind_26 : decode cX10_stoneBehind 26 = .ok (.iload 4, 2) := by decide +kernel
theorem dX10_stoneBehind_28 : decode cX10_stoneBehind 28 = .ok (.iload_n 2, 1) := by decide +kernel
theorem dX10_stoneBehind_29 : decode cX10_stoneBehind 29 = .ok (.invokevirtual 61, 3) := by decide +kernel
theorem dX10_stoneBehind_32 : decode cX10_stoneBehind 32 = .ok (.istore 4, 2) := by decide +kernel
theorem dX10_stoneBehind_34 : decode cX10_stoneBehind 34 = .ok (.iinc 5 1, 3) := by decide +kernel
theorem dX10_stoneBehind_37 : decode cX10_stoneBehind 37 = .ok (.goto (-18), 3) := by decide +kernel
theorem dX10_stoneBehind_40 : decode cX10_stoneBehind 40 = .ok (.iload 4, 2) := by decide +kernel
theorem dX10_stoneBehind_42 : decode cX10_stoneBehind 42 = .ok (.ireturn, 1) := by decide +kernel
theorem dX10_nextOnWay_0 : decode cX10_nextOnWay 0 = .ok (.iconst 0, 1) := by decide +kernel
theorem dX10_nextOnWay_1 : decode cX10_nextOnWay 1 = .ok (.istore_n 3, 1) := by decide +kernel
theorem dX10_nextOnWay_2 : decode cX10_nextOnWay 2 = .ok (.iload_n 3, 1) := by decide +kernel
theorem dX10_nextOnWay_3 : decode cX10_nextOnWay 3 = .ok (.iconst 4, 1) := by decide +kernel
theorem dX10_nextOnWay_4 : decode cX10_nextOnWay 4 = .ok (.if_icmp .ge 60, 3) := by decide +kernel
theorem dX10_nextOnWay_7 : decode cX10_nextOnWay 7 = .ok (.aload_n 0, 1) := by decide +kernel
theorem dX10_nextOnWay_8 : decode cX10_nextOnWay 8 = .ok (.getfield 27, 3) := by decide +kernel
theorem dX10_nextOnWay_11 : decode cX10_nextOnWay 11 = .ok (.iload_n 1, 1) := by decide +kernel
theorem dX10_nextOnWay_12 : decode cX10_nextOnWay 12 = .ok (.iload_n 3, 1) := by decide +kernel
theorem dX10_nextOnWay_13 : decode cX10_nextOnWay 13 = .ok (.invokevirtual 41, 3) := by decide +kernel
theorem dX10_nextOnWay_16 : decode cX10_nextOnWay 16 = .ok (.istore 4, 2) := by decide +kernel
theorem dX10_nextOnWay_18 : decode cX10_nextOnWay 18 = .ok (.iload 4, 2) := by decide +kernel
theorem dX10_nextOnWay_20 : decode cX10_nextOnWay 20 = .ok (.bipush (-9), 2) := by decide +kernel
theorem dX10_nextOnWay_22 : decode cX10_nextOnWay 22 = .ok (.if_icmp .eq 36, 3) := by decide +kernel
theorem dX10_nextOnWay_25 : decode cX10_nextOnWay 25 = .ok (.aload_n 0, 1) := by decide +kernel
theorem dX10_nextOnWay_26 : decode cX10_nextOnWay 26 = .ok (.getfield 21, 3) := by decide +kernel
theorem dX10_nextOnWay_29 : decode cX10_nextOnWay 29 = .ok (.iload 4, 2) := by decide +kernel
theorem dX10_nextOnWay_31 : decode cX10_nextOnWay 31 = .ok (.iaload, 1) := by decide +kernel
theorem dX10_nextOnWay_32 : decode cX10_nextOnWay 32 = .ok (.aload_n 0, 1) := by decide +kernel
theorem dX10_nextOnWay_33 : decode cX10_nextOnWay 33 = .ok (.getfield 21, 3) := by decide +kernel
theorem dX10_nextOnWay_36 : decode cX10_nextOnWay 36 = .ok (.iload_n 1, 1) := by decide +kernel
theorem dX10_nextOnWay_37 : decode cX10_nextOnWay 37 = .ok (.iaload, 1) := by decide +kernel
theorem dX10_nextOnWay_38 : decode cX10_nextOnWay 38 = .ok (.iconst 1, 1) := by decide +kernel
theorem dX10_nextOnWay_39 : decode cX10_nextOnWay 39 = .ok (.isub, 1) := by decide +kernel
theorem dX10_nextOnWay_40 : decode cX10_nextOnWay 40 = .ok (.if_icmp .ne 18, 3) := by decide +kernel
theorem dX10_nextOnWay_43 : decode cX10_nextOnWay 43 = .ok (.aload_n 0, 1) := by decide +kernel
theorem dX10_nextOnWay_44 : decode cX10_nextOnWay 44 = .ok (.iload_n 1, 1) := by decide +kernel
theorem dX10_nextOnWay_45 : decode cX10_nextOnWay 45 = .ok (.iload_n 3, 1) := by decide +kernel
theorem dX10_nextOnWay_46 : decode cX10_nextOnWay 46 = .ok (.iload 4, 2) := by decide +kernel
theorem dX10_nextOnWay_48 : decode cX10_nextOnWay 48 = .ok (.invokevirtual 57, 3) := by decide +kernel
theorem dX10_nextOnWay_51 : decode cX10_nextOnWay 51 = .ok (.iload_n 2, 1) := by decide +kernel
theorem dX10_nextOnWay_52 : decode cX10_nextOnWay 52 = .ok (.if_icmp .gt 6, 3) := by decide +kernel
theorem dX10_nextOnWay_55 : decode cX10_nextOnWay 55 = .ok (.iload 4, 2) := by decide +kernel
theorem dX10_nextOnWay_57 : decode cX10_nextOnWay 57 = .ok (.ireturn, 1) := by decide +kernel
theorem dX10_nextOnWay_58 : decode cX10_nextOnWay 58 = .ok (.iinc 3 1, 3) := by decide +kernel
theorem dX10_nextOnWay_61 : decode cX10_nextOnWay 61 = .ok (.goto (-59), 3) := by decide +kernel
theorem dX10_nextOnWay_64 : decode cX10_nextOnWay 64 = .ok (.iload_n 1, 1) := by decide +kernel
theorem dX10_nextOnWay_65 : decode cX10_nextOnWay 65 = .ok (.ireturn, 1) := by decide +kernel
theorem dX10_leastBetween_0 : decode cX10_leastBetween 0 = .ok (.iconst 0, 1) := by decide +kernel
theorem dX10_leastBetween_1 : decode cX10_leastBetween 1 = .ok (.istore_n 3, 1) := by decide +kernel
theorem dX10_leastBetween_2 : decode cX10_leastBetween 2 = .ok (.iload_n 3, 1) := by decide +kernel
theorem dX10_leastBetween_3 : decode cX10_leastBetween 3 = .ok (.aload_n 0, 1) := by decide +kernel
theorem dX10_leastBetween_4 : decode cX10_leastBetween 4 = .ok (.getfield 27, 3) := by decide +kernel
theorem dX10_leastBetween_7 : decode cX10_leastBetween 7 = .ok (.invokevirtual 31, 3) := by decide +kernel
theorem dX10_leastBetween_10 : decode cX10_leastBetween 10 = .ok (.if_icmp .ge 17, 3) := by decide +kernel
theorem dX10_leastBetween_13 : decode cX10_leastBetween 13 = .ok (.aload_n 0, 1) := by decide +kernel
theorem dX10_leastBetween_14 : decode cX10_leastBetween 14 = .ok (.getfield 21, 3) := by decide +kernel
theorem dX10_leastBetween_17 : decode cX10_leastBetween 17 = .ok (.iload_n 3, 1) := by decide +kernel
theorem dX10_leastBetween_18 : decode cX10_leastBetween 18 = .ok (.ldc 66, 2) := by decide +kernel
theorem dX10_leastBetween_20 : decode cX10_leastBetween 20 = .ok (.iastore, 1) := by decide +kernel
theorem dX10_leastBetween_21 : decode cX10_leastBetween 21 = .ok (.iinc 3 1, 3) := by decide +kernel
theorem dX10_leastBetween_24 : decode cX10_leastBetween 24 = .ok (.goto (-22), 3) := by decide +kernel
theorem dX10_leastBetween_27 : decode cX10_leastBetween 27 = .ok (.aload_n 0, 1) := by decide +kernel
theorem dX10_leastBetween_28 : decode cX10_leastBetween 28 = .ok (.getfield 21, 3) := by decide +kernel
theorem dX10_leastBetween_31 : decode cX10_leastBetween 31 = .ok (.iload_n 1, 1) := by decide +kernel
theorem dX10_leastBetween_32 : decode cX10_leastBetween 32 = .ok (.iconst 0, 1) := by decide +kernel
theorem dX10_leastBetween_33 : decode cX10_leastBetween 33 = .ok (.iastore, 1) := by decide +kernel
theorem dX10_leastBetween_34 : decode cX10_leastBetween 34 = .ok (.iconst 1, 1) := by decide +kernel
theorem dX10_leastBetween_35 : decode cX10_leastBetween 35 = .ok (.istore_n 3, 1) := by decide +kernel
theorem dX10_leastBetween_36 : decode cX10_leastBetween 36 = .ok (.iconst 0, 1) := by decide +kernel
theorem dX10_leastBetween_37 : decode cX10_leastBetween 37 = .ok (.istore 4, 2) := by decide +kernel
theorem dX10_leastBetween_39 : decode cX10_leastBetween 39 = .ok (.iload_n 3, 1) := by decide +kernel
theorem dX10_leastBetween_40 : decode cX10_leastBetween 40 = .ok (.ifCond .eq 78, 3) := by decide +kernel
theorem dX10_leastBetween_43 : decode cX10_leastBetween 43 = .ok (.iload 4, 2) := by decide +kernel
theorem dX10_leastBetween_45 : decode cX10_leastBetween 45 = .ok (.bipush 30, 2) := by decide +kernel
theorem dX10_leastBetween_47 : decode cX10_leastBetween 47 = .ok (.if_icmp .ge 71, 3) := by decide +kernel
theorem dX10_leastBetween_50 : decode cX10_leastBetween 50 = .ok (.iconst 0, 1) := by decide +kernel
theorem dX10_leastBetween_51 : decode cX10_leastBetween 51 = .ok (.istore_n 3, 1) := by decide +kernel
theorem dX10_leastBetween_52 : decode cX10_leastBetween 52 = .ok (.iconst 0, 1) := by decide +kernel
theorem dX10_leastBetween_53 : decode cX10_leastBetween 53 = .ok (.istore 5, 2) := by decide +kernel
theorem dX10_leastBetween_55 : decode cX10_leastBetween 55 = .ok (.iload 5, 2) := by decide +kernel
theorem dX10_leastBetween_57 : decode cX10_leastBetween 57 = .ok (.aload_n 0, 1) := by decide +kernel
theorem dX10_leastBetween_58 : decode cX10_leastBetween 58 = .ok (.getfield 27, 3) := by decide +kernel
theorem dX10_leastBetween_61 : decode cX10_leastBetween 61 = .ok (.invokevirtual 31, 3) := by decide +kernel
theorem dX10_leastBetween_64 : decode cX10_leastBetween 64 = .ok (.if_icmp .ge 48, 3) := by decide +kernel
theorem dX10_leastBetween_67 : decode cX10_leastBetween 67 = .ok (.aload_n 0, 1) := by decide +kernel
theorem dX10_leastBetween_68 : decode cX10_leastBetween 68 = .ok (.iload 5, 2) := by decide +kernel
theorem dX10_leastBetween_70 : decode cX10_leastBetween 70 = .ok (.invokevirtual 67, 3) := by decide +kernel
theorem dX10_leastBetween_73 : decode cX10_leastBetween 73 = .ok (.istore 6, 2) := by decide +kernel
theorem dX10_leastBetween_75 : decode cX10_leastBetween 75 = .ok (.iload_n 3, 1) := by decide +kernel
theorem dX10_leastBetween_76 : decode cX10_leastBetween 76 = .ok (.ifCond .ne 15, 3) := by decide +kernel
theorem dX10_leastBetween_79 : decode cX10_leastBetween 79 = .ok (.iload 6, 2) := by decide +kernel
theorem dX10_leastBetween_81 : decode cX10_leastBetween 81 = .ok (.aload_n 0, 1) := by decide +kernel
theorem dX10_leastBetween_82 : decode cX10_leastBetween 82 = .ok (.getfield 21, 3) := by decide +kernel
theorem dX10_leastBetween_85 : decode cX10_leastBetween 85 = .ok (.iload 5, 2) := by decide +kernel
theorem dX10_leastBetween_87 : decode cX10_leastBetween 87 = .ok (.iaload, 1) := by decide +kernel
theorem dX10_leastBetween_88 : decode cX10_leastBetween 88 = .ok (.if_icmp .ge 7, 3) := by decide +kernel
theorem dX10_leastBetween_91 : decode cX10_leastBetween 91 = .ok (.iconst 1, 1) := by decide +kernel
theorem dX10_leastBetween_92 : decode cX10_leastBetween 92 = .ok (.goto 4, 3) := by decide +kernel
theorem dX10_leastBetween_95 : decode cX10_leastBetween 95 = .ok (.iconst 0, 1) := by decide +kernel
theorem dX10_leastBetween_96 : decode cX10_leastBetween 96 = .ok (.istore_n 3, 1) := by decide +kernel
theorem dX10_leastBetween_97 : decode cX10_leastBetween 97 = .ok (.aload_n 0, 1) := by decide +kernel
theorem dX10_leastBetween_98 : decode cX10_leastBetween 98 = .ok (.getfield 21, 3) := by decide +kernel
theorem dX10_leastBetween_101 : decode cX10_leastBetween 101 = .ok (.iload 5, 2) := by decide +kernel
theorem dX10_leastBetween_103 : decode cX10_leastBetween 103 = .ok (.iload 6, 2) := by decide +kernel
theorem dX10_leastBetween_105 : decode cX10_leastBetween 105 = .ok (.iastore, 1) := by decide +kernel
theorem dX10_leastBetween_106 : decode cX10_leastBetween 106 = .ok (.iinc 5 1, 3) := by decide +kernel
theorem dX10_leastBetween_109 : decode cX10_leastBetween 109 = .ok (.goto (-54), 3) := by decide +kernel
theorem dX10_leastBetween_112 : decode cX10_leastBetween 112 = .ok (.iinc 4 1, 3) := by decide +kernel
theorem dX10_leastBetween_115 : decode cX10_leastBetween 115 = .ok (.goto (-76), 3) := by decide +kernel
theorem dX10_leastBetween_118 : decode cX10_leastBetween 118 = .ok (.aload_n 0, 1) := by decide +kernel
theorem dX10_leastBetween_119 : decode cX10_leastBetween 119 = .ok (.getfield 21, 3) := by decide +kernel
theorem dX10_leastBetween_122 : decode cX10_leastBetween 122 = .ok (.iload_n 2, 1) := by decide +kernel
theorem dX10_leastBetween_123 : decode cX10_leastBetween 123 = .ok (.iaload, 1) := by decide +kernel
theorem dX10_leastBetween_124 : decode cX10_leastBetween 124 = .ok (.ireturn, 1) := by decide +kernel
theorem dX10_leastByNeighbours_0 : decode cX10_leastByNeighbours 0 = .ok (.aload_n 0, 1) := by decide +kernel
theorem dX10_leastByNeighbours_1 : decode cX10_leastByNeighbours 1 = .ok (.getfield 21, 3) := by decide +kernel
theorem dX10_leastByNeighbours_4 : decode cX10_leastByNeighbours 4 = .ok (.iload_n 1, 1) := by decide +kernel
theorem dX10_leastByNeighbours_5 : decode cX10_leastByNeighbours 5 = .ok (.iaload, 1) := by decide +kernel
theorem dX10_leastByNeighbours_6 : decode cX10_leastByNeighbours 6 = .ok (.istore_n 2, 1) := by decide +kernel
theorem dX10_leastByNeighbours_7 : decode cX10_leastByNeighbours 7 = .ok (.iconst 0, 1) := by decide +kernel
theorem dX10_leastByNeighbours_8 : decode cX10_leastByNeighbours 8 = .ok (.istore_n 3, 1) := by decide +kernel
theorem dX10_leastByNeighbours_9 : decode cX10_leastByNeighbours 9 = .ok (.iload_n 3, 1) := by decide +kernel
theorem dX10_leastByNeighbours_10 : decode cX10_leastByNeighbours 10 = .ok (.iconst 4, 1) := by decide +kernel
theorem dX10_leastByNeighbours_11 : decode cX10_leastByNeighbours 11 = .ok (.if_icmp .ge 50, 3) := by decide +kernel
theorem dX10_leastByNeighbours_14 : decode cX10_leastByNeighbours 14 = .ok (.aload_n 0, 1) := by decide +kernel
theorem dX10_leastByNeighbours_15 : decode cX10_leastByNeighbours 15 = .ok (.getfield 27, 3) := by decide +kernel
theorem dX10_leastByNeighbours_18 : decode cX10_leastByNeighbours 18 = .ok (.iload_n 1, 1) := by decide +kernel
theorem dX10_leastByNeighbours_19 : decode cX10_leastByNeighbours 19 = .ok (.iload_n 3, 1) := by decide +kernel
theorem dX10_leastByNeighbours_20 : decode cX10_leastByNeighbours 20 = .ok (.invokevirtual 41, 3) := by decide +kernel
theorem dX10_leastByNeighbours_23 : decode cX10_leastByNeighbours 23 = .ok (.istore 4, 2) := by decide +kernel
theorem dX10_leastByNeighbours_25 : decode cX10_leastByNeighbours 25 = .ok (.iload 4, 2) := by decide +kernel
theorem dX10_leastByNeighbours_27 : decode cX10_leastByNeighbours 27 = .ok (.bipush (-9), 2) := by decide +kernel
theorem dX10_leastByNeighbours_29 : decode cX10_leastByNeighbours 29 = .ok (.if_icmp .eq 26, 3) := by decide +kernel
theorem dX10_leastByNeighbours_32 : decode cX10_leastByNeighbours 32 = .ok (.iload_n 2, 1) := by decide +kernel
theorem dX10_leastByNeighbours_33 : decode cX10_leastByNeighbours 33 = .ok (.aload_n 0, 1) := by decide +kernel
theorem dX10_leastByNeighbours_34 : decode cX10_leastByNeighbours 34 = .ok (.getfield 21, 3) := by decide +kernel
theorem dX10_leastByNeighbours_37 : decode cX10_leastByNeighbours 37 = .ok (.iload 4, 2) := by decide +kernel
theorem dX10_leastByNeighbours_39 : decode cX10_leastByNeighbours 39 = .ok (.iaload, 1) := by decide +kernel
theorem dX10_leastByNeighbours_40 : decode cX10_leastByNeighbours 40 = .ok (.aload_n 0, 1) := by decide +kernel
theorem dX10_leastByNeighbours_41 : decode cX10_leastByNeighbours 41 = .ok (.iload_n 1, 1) := by decide +kernel
theorem dX10_leastByNeighbours_42 : decode cX10_leastByNeighbours 42 = .ok (.iload_n 3, 1) := by decide +kernel
theorem dX10_leastByNeighbours_43 : decode cX10_leastByNeighbours 43 = .ok (.iload 4, 2) := by decide +kernel
theorem dX10_leastByNeighbours_45 : decode cX10_leastByNeighbours 45 = .ok (.invokevirtual 57, 3) := by decide +kernel
theorem dX10_leastByNeighbours_48 : decode cX10_leastByNeighbours 48 = .ok (.invokestatic 48, 3) := by decide +kernel
theorem dX10_leastByNeighbours_51 : decode cX10_leastByNeighbours 51 = .ok (.invokestatic 70, 3) := by decide +kernel
theorem dX10_leastByNeighbours_54 : decode cX10_leastByNeighbours 54 = .ok (.istore_n 2, 1) := by decide +kernel
theorem dX10_leastByNeighbours_55 : decode cX10_leastByNeighbours 55 = .ok (.iinc 3 1, 3) := by decide +kernel
theorem dX10_leastByNeighbours_58 : decode cX10_leastByNeighbours 58 = .ok (.goto (-49), 3) := by decide +kernel
theorem dX10_leastByNeighbours_61 : decode cX10_leastByNeighbours 61 = .ok (.iload_n 2, 1) := by decide +kernel
theorem dX10_leastByNeighbours_62 : decode cX10_leastByNeighbours 62 = .ok (.ireturn, 1) := by decide +kernel
theorem dX11_init_0 : decode cX11_init 0 = .ok (.aload_n 0, 1) := by decide +kernel
theorem dX11_init_1 : decode cX11_init 1 = .ok (.invokespecial 3, 3) := by decide +kernel
theorem dX11_init_4 : decode cX11_init 4 = .ok (.aload_n 0, 1) := by decide +kernel
theorem dX11_init_5 : decode cX11_init 5 = .ok (.new 9, 3) := by decide +kernel
theorem dX11_init_8 : decode cX11_init 8 = .ok (.dup, 1) := by decide +kernel
theorem dX11_init_9 : decode cX11_init 9 = .ok (.invokespecial 11, 3) := by decide +kernel
theorem dX11_init_12 : decode cX11_init 12 = .ok (.putfield 12, 3) := by decide +kernel
theorem dX11_init_15 : decode cX11_init 15 = .ok (.aload_n 0, 1) := by decide +kernel
theorem dX11_init_16 : decode cX11_init 16 = .ok (.new 18, 3) := by decide +kernel
theorem dX11_init_19 : decode cX11_init 19 = .ok (.dup, 1) := by decide +kernel
theorem dX11_init_20 : decode cX11_init 20 = .ok (.invokespecial 20, 3) := by decide +kernel
theorem dX11_init_23 : decode cX11_init 23 = .ok (.putfield 21, 3) := by decide +kernel
theorem dX11_init_26 : decode cX11_init 26 = .ok (.aload_n 0, 1) := by decide +kernel
theorem dX11_init_27 : decode cX11_init 27 = .ok (.new 25, 3) := by decide +kernel
theorem dX11_init_30 : decode cX11_init 30 = .ok (.dup, 1) := by decide +kernel
theorem dX11_init_31 : decode cX11_init 31 = .ok (.aload_n 0, 1) := by decide +kernel
theorem dX11_init_32 : decode cX11_init 32 = .ok (.getfield 21, 3) := by decide +kernel
theorem dX11_init_35 : decode cX11_init 35 = .ok (.invokespecial 27, 3) := by decide +kernel
theorem dX11_init_38 : decode cX11_init 38 = .ok (.putfield 30, 3) := by decide +kernel
theorem dX11_init_41 : decode cX11_init 41 = .ok (.aload_n 0, 1) := by decide +kernel
theorem dX11_init_42 : decode cX11_init 42 = .ok (.new 34, 3) := by decide +kernel
theorem dX11_init_45 : decode cX11_init 45 = .ok (.dup, 1) := by decide +kernel
theorem dX11_init_46 : decode cX11_init 46 = .ok (.aload_n 0, 1) := by decide +kernel
theorem dX11_init_47 : decode cX11_init 47 = .ok (.getfield 21, 3) := by decide +kernel
theorem dX11_init_50 : decode cX11_init 50 = .ok (.invokespecial 36, 3) := by decide +kernel
theorem dX11_init_53 : decode cX11_init 53 = .ok (.putfield 37, 3) := by decide +kernel
theorem dX11_init_56 : decode cX11_init 56 = .ok (.aload_n 0, 1) := by decide +kernel
theorem dX11_init_57 : decode cX11_init 57 = .ok (.new 41, 3) := by decide +kernel
theorem dX11_init_60 : decode cX11_init 60 = .ok (.dup, 1) := by decide +kernel
theorem dX11_init_61 : decode cX11_init 61 = .ok (.aload_n 0, 1) := by decide +kernel
theorem dX11_init_62 : decode cX11_init 62 = .ok (.getfield 21, 3) := by decide +kernel
theorem dX11_init_65 : decode cX11_init 65 = .ok (.invokespecial 43, 3) := by decide +kernel
theorem dX11_init_68 : decode cX11_init 68 = .ok (.putfield 44, 3) := by decide +kernel
theorem dX11_init_71 : decode cX11_init 71 = .ok (.aload_n 0, 1) := by decide +kernel
theorem dX11_init_72 : decode cX11_init 72 = .ok (.new 48, 3) := by decide +kernel
theorem dX11_init_75 : decode cX11_init 75 = .ok (.dup, 1) := by decide +kernel
theorem dX11_init_76 : decode cX11_init 76 = .ok (.aload_n 0, 1) := by decide +kernel
theorem dX11_init_77 : decode cX11_init 77 = .ok (.getfield 21, 3) := by decide +kernel
theorem dX11_init_80 : decode cX11_init 80 = .ok (.invokespecial 50, 3) := by decide +kernel
theorem dX11_init_83 : decode cX11_init 83 = .ok (.putfield 51, 3) := by decide +kernel
theorem dX11_init_86 : decode cX11_init 86 = .ok (.aload_n 0, 1) := by decide +kernel
theorem dX11_init_87 : decode cX11_init 87 = .ok (.new 55, 3) := by decide +kernel
theorem dX11_init_90 : decode cX11_init 90 = .ok (.dup, 1) := by decide +kernel
theorem dX11_init_91 : decode cX11_init 91 = .ok (.aload_n 0, 1) := by decide +kernel
theorem dX11_init_92 : decode cX11_init 92 = .ok (.getfield 21, 3) := by decide +kernel
theorem dX11_init_95 : decode cX11_init 95 = .ok (.invokespecial 57, 3) := by decide +kernel
theorem dX11_init_98 : decode cX11_init 98 = .ok (.putfield 58, 3) := by decide +kernel
theorem dX11_init_101 : decode cX11_init 101 = .ok (.aload_n 0, 1) := by decide +kernel
theorem dX11_init_102 : decode cX11_init 102 = .ok (.iconst 4, 1) := by decide +kernel
theorem dX11_init_103 : decode cX11_init 103 = .ok (.anewarray 62, 3) := by decide +kernel
theorem dX11_init_106 : decode cX11_init 106 = .ok (.dup, 1) := by decide +kernel
theorem dX11_init_107 : decode cX11_init 107 = .ok (.iconst 0, 1) := by decide +kernel
theorem dX11_init_108 : decode cX11_init 108 = .ok (.new 62, 3) := by decide +kernel
theorem dX11_init_111 : decode cX11_init 111 = .ok (.dup, 1) := by decide +kernel
theorem dX11_init_112 : decode cX11_init 112 = .ok (.invokespecial 64, 3) := by decide +kernel
theorem dX11_init_115 : decode cX11_init 115 = .ok (.aastore, 1) := by decide +kernel
theorem dX11_init_116 : decode cX11_init 116 = .ok (.dup, 1) := by decide +kernel
theorem dX11_init_117 : decode cX11_init 117 = .ok (.iconst 1, 1) := by decide +kernel
theorem dX11_init_118 : decode cX11_init 118 = .ok (.new 62, 3) := by decide +kernel
theorem dX11_init_121 : decode cX11_init 121 = .ok (.dup, 1) := by decide +kernel
theorem dX11_init_122 : decode cX11_init 122 = .ok (.invokespecial 64, 3) := by decide +kernel
theorem dX11_init_125 : decode cX11_init 125 = .ok (.aastore, 1) := by decide +kernel
theorem dX11_init_126 : decode cX11_init 126 = .ok (.dup, 1) := by decide +kernel
theorem dX11_init_127 : decode cX11_init 127 = .ok (.iconst 2, 1) := by decide +kernel
theorem dX11_init_128 : decode cX11_init 128 = .ok (.new 62, 3) := by decide +kernel
theorem dX11_init_131 : decode cX11_init 131 = .ok (.dup, 1) := by decide +kernel
theorem dX11_init_132 : decode cX11_init 132 = .ok (.invokespecial 64, 3) := by decide +kernel
theorem dX11_init_135 : decode cX11_init 135 = .ok (.aastore, 1) := by decide +kernel
theorem dX11_init_136 : decode cX11_init 136 = .ok (.dup, 1) := by decide +kernel
theorem dX11_init_137 : decode cX11_init 137 = .ok (.iconst 3, 1) := by decide +kernel
theorem dX11_init_138 : decode cX11_init 138 = .ok (.new 62, 3) := by decide +kernel
theorem dX11_init_141 : decode cX11_init 141 = .ok (.dup, 1) := by decide +kernel
theorem dX11_init_142 : decode cX11_init 142 = .ok (.invokespecial 64, 3) := by decide +kernel
theorem dX11_init_145 : decode cX11_init 145 = .ok (.aastore, 1) := by decide +kernel
theorem dX11_init_146 : decode cX11_init 146 = .ok (.putfield 65, 3) := by decide +kernel
theorem dX11_init_149 : decode cX11_init 149 = .ok (.return_, 1) := by decide +kernel
theorem dX11_square_0 : decode cX11_square 0 = .ok (.aload_n 0, 1) := by decide +kernel
theorem dX11_square_1 : decode cX11_square 1 = .ok (.iconst 0, 1) := by decide +kernel
theorem dX11_square_2 : decode cX11_square 2 = .ok (.putfield 69, 3) := by decide +kernel
theorem dX11_square_5 : decode cX11_square 5 = .ok (.iload_n 1, 1) := by decide +kernel
theorem dX11_square_6 : decode cX11_square 6 = .ok (.invokestatic 73, 3) := by decide +kernel
theorem dX11_square_9 : decode cX11_square 9 = .ok (.ifCond .ne 5, 3) := by decide +kernel
theorem dX11_square_12 : decode cX11_square 12 = .ok (.iconst (-1), 1) := by decide +kernel
theorem dX11_square_13 : decode cX11_square 13 = .ok (.ireturn, 1) := by decide +kernel
theorem dX11_square_14 : decode cX11_square 14 = .ok (.iload_n 2, 1) := by decide +kernel
theorem dX11_square_15 : decode cX11_square 15 = .ok (.invokestatic 77, 3) := by decide +kernel
theorem dX11_square_18 : decode cX11_square 18 = .ok (.ifCond .ne 6, 3) := by decide +kernel
theorem dX11_square_21 : decode cX11_square 21 = .ok (.bipush (-2), 2) := by decide +kernel
theorem dX11_square_23 : decode cX11_square 23 = .ok (.ireturn, 1) := by decide +kernel
theorem dX11_square_24 : decode cX11_square 24 = .ok (.aload_n 0, 1) := by decide +kernel
theorem dX11_square_25 : decode cX11_square 25 = .ok (.getfield 65, 3) := by decide +kernel
theorem dX11_square_28 : decode cX11_square 28 = .ok (.iload_n 1, 1) := by decide +kernel
theorem dX11_square_29 : decode cX11_square 29 = .ok (.aaload, 1) := by decide +kernel
theorem dX11_square_30 : decode cX11_square 30 = .ok (.astore 5, 2) := by decide +kernel
theorem dX11_square_32 : decode cX11_square 32 = .ok (.aload 5, 2) := by decide +kernel
theorem dX11_square_34 : decode cX11_square 34 = .ok (.iload_n 2, 1) := by decide +kernel
theorem dX11_square_35 : decode cX11_square 35 = .ok (.invokevirtual 80, 3) := by decide +kernel
theorem dX11_square_38 : decode cX11_square 38 = .ok (.istore 6, 2) := by decide +kernel
theorem dX11_square_40 : decode cX11_square 40 = .ok (.iload 6, 2) := by decide +kernel
theorem dX11_square_42 : decode cX11_square 42 = .ok (.ifCond .eq 10, 3) := by decide +kernel
theorem dX11_square_45 : decode cX11_square 45 = .ok (.aload_n 0, 1) := by decide +kernel
theorem dX11_square_46 : decode cX11_square 46 = .ok (.iload 6, 2) := by decide +kernel
theorem dX11_square_48 : decode cX11_square 48 = .ok (.invokevirtual 84, 3) := by decide +kernel
theorem dX11_square_51 : decode cX11_square 51 = .ok (.ireturn, 1) := by decide +kernel
theorem dX11_square_52 : decode cX11_square 52 = .ok (.iload 4, 2) := by decide +kernel
theorem dX11_square_54 : decode cX11_square 54 = .ok (.ifCond .ge 9, 3) := by decide +kernel
theorem dX11_square_57 : decode cX11_square 57 = .ok (.aload_n 0, 1) := by decide +kernel
theorem dX11_square_58 : decode cX11_square 58 = .ok (.iconst 4, 1) := by decide +kernel
theorem dX11_square_59 : decode cX11_square 59 = .ok (.invokevirtual 84, 3) := by decide +kernel
theorem dX11_square_62 : decode cX11_square 62 = .ok (.ireturn, 1) := by decide +kernel
theorem dX11_square_63 : decode cX11_square 63 = .ok (.aload 5, 2) := by decide +kernel
theorem dX11_square_65 : decode cX11_square 65 = .ok (.iload_n 3, 1) := by decide +kernel
theorem dX11_square_66 : decode cX11_square 66 = .ok (.iload 4, 2) := by decide +kernel
theorem dX11_square_68 : decode cX11_square 68 = .ok (.invokevirtual 87, 3) := by decide +kernel
theorem dX11_square_71 : decode cX11_square 71 = .ok (.ifCond .ne 9, 3) := by decide +kernel
theorem dX11_square_74 : decode cX11_square 74 = .ok (.aload_n 0, 1) := by decide +kernel
theorem dX11_square_75 : decode cX11_square 75 = .ok (.iconst 3, 1) := by decide +kernel
theorem dX11_square_76 : decode cX11_square 76 = .ok (.invokevirtual 84, 3) := by decide +kernel
theorem dX11_square_79 : decode cX11_square 79 = .ok (.ireturn, 1) := by decide +kernel
theorem dX11_square_80 : decode cX11_square 80 = .ok (.aload 5, 2) := by decide +kernel
theorem dX11_square_82 : decode cX11_square 82 = .ok (.iload_n 3, 1) := by decide +kernel
theorem dX11_square_83 : decode cX11_square 83 = .ok (.iload 4, 2) := by decide +kernel
theorem dX11_square_85 : decode cX11_square 85 = .ok (.invokestatic 91, 3) := by decide +kernel
theorem dX11_square_88 : decode cX11_square 88 = .ok (.istore 7, 2) := by decide +kernel
theorem dX11_square_90 : decode cX11_square 90 = .ok (.iload 7, 2) := by decide +kernel
theorem dX11_square_92 : decode cX11_square 92 = .ok (.bipush (-9), 2) := by decide +kernel
theorem dX11_square_94 : decode cX11_square 94 = .ok (.if_icmp .eq 9, 3) := by decide +kernel
theorem dX11_square_97 : decode cX11_square 97 = .ok (.bipush (-100), 2) := by decide +kernel
theorem dX11_square_99 : decode cX11_square 99 = .ok (.iload 7, 2) := by decide +kernel
theorem dX11_square_101 : decode cX11_square 101 = .ok (.isub, 1) := by decide +kernel
theorem dX11_square_102 : decode cX11_square 102 = .ok (.ireturn, 1) := by decide +kernel
theorem dX11_square_103 : decode cX11_square 103 = .ok (.aload_n 0, 1) := by decide +kernel
theorem dX11_square_104 : decode cX11_square 104 = .ok (.getfield 21, 3) := by decide +kernel
theorem dX11_square_107 : decode cX11_square 107 = .ok (.aload 5, 2) := by decide +kernel
theorem dX11_square_109 : decode cX11_square 109 = .ok (.iload_n 3, 1) := by decide +kernel
theorem dX11_square_110 : decode cX11_square 110 = .ok (.invokevirtual 95, 3) := by decide +kernel
theorem dX11_square_113 : decode cX11_square 113 = .ok (.aload_n 0, 1) := by decide +kernel
theorem dX11_square_114 : decode cX11_square 114 = .ok (.getfield 58, 3) := by decide +kernel
theorem dX11_square_117 : decode cX11_square 117 = .ok (.invokevirtual 99, 3) := by decide +kernel
theorem dX11_square_120 : decode cX11_square 120 = .ok (.aload_n 0, 1) := by decide +kernel
theorem dX11_square_121 : decode cX11_square 121 = .ok (.getfield 21, 3) := by decide +kernel
theorem dX11_square_124 : decode cX11_square 124 = .ok (.invokevirtual 102, 3) := by decide +kernel
theorem dX11_square_127 : decode cX11_square 127 = .ok (.ireturn, 1) := by decide +kernel
theorem dX11_ofStone_0 : decode cX11_ofStone 0 = .ok (.aload_n 0, 1) := by decide +kernel
theorem dX11_ofStone_1 : decode cX11_ofStone 1 = .ok (.getfield 21, 3) := by decide +kernel
theorem dX11_ofStone_4 : decode cX11_ofStone 4 = .ok (.iload_n 1, 1) := by decide +kernel
theorem dX11_ofStone_5 : decode cX11_ofStone 5 = .ok (.invokevirtual 106, 3) := by decide +kernel
theorem dX11_ofStone_8 : decode cX11_ofStone 8 = .ok (.ifCond .ne 5, 3) := by decide +kernel
theorem dX11_ofStone_11 : decode cX11_ofStone 11 = .ok (.iconst (-1), 1) := by decide +kernel
theorem dX11_ofStone_12 : decode cX11_ofStone 12 = .ok (.ireturn, 1) := by decide +kernel
theorem dX11_ofStone_13 : decode cX11_ofStone 13 = .ok (.iload_n 2, 1) := by decide +kernel
theorem dX11_ofStone_14 : decode cX11_ofStone 14 = .ok (.tableswitch 56 0 2 #[26, 36, 46], 26) := by decide +kernel
theorem dX11_ofStone_40 : decode cX11_ofStone 40 = .ok (.aload_n 0, 1) := by decide +kernel
theorem dX11_ofStone_41 : decode cX11_ofStone 41 = .ok (.getfield 21, 3) := by decide +kernel
theorem dX11_ofStone_44 : decode cX11_ofStone 44 = .ok (.getfield 109, 3) := by decide +kernel
theorem dX11_ofStone_47 : decode cX11_ofStone 47 = .ok (.iload_n 1, 1) := by decide +kernel
theorem dX11_ofStone_48 : decode cX11_ofStone 48 = .ok (.iaload, 1) := by decide +kernel
theorem dX11_ofStone_49 : decode cX11_ofStone 49 = .ok (.ireturn, 1) := by decide +kernel
theorem dX11_ofStone_50 : decode cX11_ofStone 50 = .ok (.aload_n 0, 1) := by decide +kernel
theorem dX11_ofStone_51 : decode cX11_ofStone 51 = .ok (.getfield 21, 3) := by decide +kernel
theorem dX11_ofStone_54 : decode cX11_ofStone 54 = .ok (.getfield 113, 3) := by decide +kernel
theorem dX11_ofStone_57 : decode cX11_ofStone 57 = .ok (.iload_n 1, 1) := by decide +kernel
theorem dX11_ofStone_58 : decode cX11_ofStone 58 = .ok (.iaload, 1) := by decide +kernel
theorem dX11_ofStone_59 : decode cX11_ofStone 59 = .ok (.ireturn, 1) := by decide +kernel
theorem dX11_ofStone_60 : decode cX11_ofStone 60 = .ok (.aload_n 0, 1) := by decide +kernel
theorem dX11_ofStone_61 : decode cX11_ofStone 61 = .ok (.getfield 21, 3) := by decide +kernel
theorem dX11_ofStone_64 : decode cX11_ofStone 64 = .ok (.getfield 116, 3) := by decide +kernel
theorem dX11_ofStone_67 : decode cX11_ofStone 67 = .ok (.iload_n 1, 1) := by decide +kernel
theorem dX11_ofStone_68 : decode cX11_ofStone 68 = .ok (.iaload, 1) := by decide +kernel
theorem dX11_ofStone_69 : decode cX11_ofStone 69 = .ok (.ireturn, 1) := by decide +kernel
theorem dX11_ofStone_70 : decode cX11_ofStone 70 = .ok (.bipush (-2), 2) := by decide +kernel
theorem dX11_ofStone_72 : decode cX11_ofStone 72 = .ok (.ireturn, 1) := by decide +kernel
theorem dX11_month_0 : decode cX11_month 0 = .ok (.iload_n 1, 1) := by decide +kernel
theorem dX11_month_1 : decode cX11_month 1 = .ok (.invokestatic 119, 3) := by decide +kernel
theorem dX11_month_4 : decode cX11_month 4 = .ok (.ifCond .ne 5, 3) := by decide +kernel
theorem dX11_month_7 : decode cX11_month 7 = .ok (.iconst (-1), 1) := by decide +kernel
theorem dX11_month_8 : decode cX11_month 8 = .ok (.ireturn, 1) := by decide +kernel
theorem dX11_month_9 : decode cX11_month 9 = .ok (.iload_n 2, 1) := by decide +kernel
theorem dX11_month_10 : decode cX11_month 10 = .ok (.iconst 0, 1) := by decide +kernel
theorem dX11_month_11 : decode cX11_month 11 = .ok (.bipush 9, 2) := by decide +kernel
theorem dX11_month_13 : decode cX11_month 13 = .ok (.invokestatic 122, 3) := by decide +kernel
theorem dX11_month_16 : decode cX11_month 16 = .ok (.ifCond .eq 13, 3) := by decide +kernel
theorem dX11_month_19 : decode cX11_month 19 = .ok (.iload_n 3, 1) := by decide +kernel
theorem dX11_month_20 : decode cX11_month 20 = .ok (.iconst 0, 1) := by decide +kernel
theorem dX11_month_21 : decode cX11_month 21 = .ok (.bipush 9, 2) := by decide +kernel
theorem dX11_month_23 : decode cX11_month 23 = .ok (.invokestatic 122, 3) := by decide +kernel
theorem dX11_month_26 : decode cX11_month 26 = .ok (.ifCond .ne 6, 3) := by decide +kernel
theorem dX11_month_29 : decode cX11_month 29 = .ok (.bipush (-2), 2) := by decide +kernel
theorem dX11_month_31 : decode cX11_month 31 = .ok (.ireturn, 1) := by decide +kernel
theorem dX11_month_32 : decode cX11_month 32 = .ok (.aload_n 0, 1) := by decide +kernel
theorem dX11_month_33 : decode cX11_month 33 = .ok (.getfield 21, 3) := by decide +kernel
theorem dX11_month_36 : decode cX11_month 36 = .ok (.invokevirtual 126, 3) := by decide +kernel
theorem dX11_month_39 : decode cX11_month 39 = .ok (.ifCond .eq 6, 3) := by decide +kernel
theorem dX11_month_42 : decode cX11_month 42 = .ok (.bipush (-3), 2) := by decide +kernel
theorem dX11_month_44 : decode cX11_month 44 = .ok (.ireturn, 1) := by decide +kernel
theorem dX11_month_45 : decode cX11_month 45 = .ok (.bipush 10, 2) := by decide +kernel
theorem dX11_month_47 : decode cX11_month 47 = .ok (.aload_n 0, 1) := by decide +kernel
theorem dX11_month_48 : decode cX11_month 48 = .ok (.getfield 21, 3) := by decide +kernel
theorem dX11_month_51 : decode cX11_month 51 = .ok (.getfield 130, 3) := by decide +kernel
theorem dX11_month_54 : decode cX11_month 54 = .ok (.iload_n 1, 1) := by decide +kernel
theorem dX11_month_55 : decode cX11_month 55 = .ok (.iaload, 1) := by decide +kernel
theorem dX11_month_56 : decode cX11_month 56 = .ok (.imul, 1) := by decide +kernel
theorem dX11_month_57 : decode cX11_month 57 = .ok (.aload_n 0, 1) := by decide +kernel
theorem dX11_month_58 : decode cX11_month 58 = .ok (.getfield 21, 3) := by decide +kernel
theorem dX11_month_61 : decode cX11_month 61 = .ok (.getfield 133, 3) := by decide +kernel
theorem dX11_month_64 : decode cX11_month 64 = .ok (.iload_n 1, 1) := by decide +kernel
theorem dX11_month_65 : decode cX11_month 65 = .ok (.iaload, 1) := by decide +kernel
theorem dX11_month_66 : decode cX11_month 66 = .ok (.iadd, 1) := by decide +kernel
theorem dX11_month_67 : decode cX11_month 67 = .ok (.istore 4, 2) := by decide +kernel
theorem dX11_month_69 : decode cX11_month 69 = .ok (.aload_n 0, 1) := by decide +kernel
theorem dX11_month_70 : decode cX11_month 70 = .ok (.getfield 21, 3) := by decide +kernel
theorem dX11_month_73 : decode cX11_month 73 = .ok (.getfield 130, 3) := by decide +kernel
theorem dX11_month_76 : decode cX11_month 76 = .ok (.iload_n 1, 1) := by decide +kernel
theorem dX11_month_77 : decode cX11_month 77 = .ok (.iload_n 2, 1) := by decide +kernel
theorem dX11_month_78 : decode cX11_month 78 = .ok (.iastore, 1) := by decide +kernel
theorem dX11_month_79 : decode cX11_month 79 = .ok (.aload_n 0, 1) := by decide +kernel
theorem dX11_month_80 : decode cX11_month 80 = .ok (.getfield 21, 3) := by decide +kernel
theorem dX11_month_83 : decode cX11_month 83 = .ok (.getfield 133, 3) := by decide +kernel
theorem dX11_month_86 : decode cX11_month 86 = .ok (.iload_n 1, 1) := by decide +kernel
theorem dX11_month_87 : decode cX11_month 87 = .ok (.iload_n 3, 1) := by decide +kernel
theorem dX11_month_88 : decode cX11_month 88 = .ok (.iastore, 1) := by decide +kernel
theorem dX11_month_89 : decode cX11_month 89 = .ok (.iload 4, 2) := by decide +kernel
theorem dX11_month_91 : decode cX11_month 91 = .ok (.ireturn, 1) := by decide +kernel
theorem dX11_lift_0 : decode cX11_lift 0 = .ok (.aload_n 0, 1) := by decide +kernel
theorem dX11_lift_1 : decode cX11_lift 1 = .ok (.getfield 21, 3) := by decide +kernel
theorem dX11_lift_4 : decode cX11_lift 4 = .ok (.iload_n 1, 1) := by decide +kernel
theorem dX11_lift_5 : decode cX11_lift 5 = .ok (.invokevirtual 106, 3) := by decide +kernel
theorem dX11_lift_8 : decode cX11_lift 8 = .ok (.ifCond .ne 5, 3) := by decide +kernel
theorem dX11_lift_11 : decode cX11_lift 11 = .ok (.iconst (-1), 1) := by decide +kernel
theorem dX11_lift_12 : decode cX11_lift 12 = .ok (.ireturn, 1) := by decide +kernel
theorem dX11_lift_13 : decode cX11_lift 13 = .ok (.iload_n 2, 1) := by decide +kernel
theorem dX11_lift_14 : decode cX11_lift 14 = .ok (.iconst 0, 1) := by decide +kernel
theorem dX11_lift_15 : decode cX11_lift 15 = .ok (.bipush 99, 2) := by decide +kernel
theorem dX11_lift_17 : decode cX11_lift 17 = .ok (.invokestatic 122, 3) := by decide +kernel
theorem dX11_lift_20 : decode cX11_lift 20 = .ok (.ifCond .ne 6, 3) := by decide +kernel
theorem dX11_lift_23 : decode cX11_lift 23 = .ok (.bipush (-2), 2) := by decide +kernel
theorem dX11_lift_25 : decode cX11_lift 25 = .ok (.ireturn, 1) := by decide +kernel
theorem dX11_lift_26 : decode cX11_lift 26 = .ok (.aload_n 0, 1) := by decide +kernel
theorem dX11_lift_27 : decode cX11_lift 27 = .ok (.getfield 21, 3) := by decide +kernel
theorem dX11_lift_30 : decode cX11_lift 30 = .ok (.getfield 116, 3) := by decide +kernel
theorem dX11_lift_33 : decode cX11_lift 33 = .ok (.iload_n 1, 1) := by decide +kernel
theorem dX11_lift_34 : decode cX11_lift 34 = .ok (.iaload, 1) := by decide +kernel
theorem dX11_lift_35 : decode cX11_lift 35 = .ok (.istore_n 3, 1) := by decide +kernel
theorem dX11_lift_36 : decode cX11_lift 36 = .ok (.aload_n 0, 1) := by decide +kernel
theorem dX11_lift_37 : decode cX11_lift 37 = .ok (.getfield 21, 3) := by decide +kernel
theorem dX11_lift_40 : decode cX11_lift 40 = .ok (.getfield 116, 3) := by decide +kernel
theorem dX11_lift_43 : decode cX11_lift 43 = .ok (.iload_n 1, 1) := by decide +kernel
theorem dX11_lift_44 : decode cX11_lift 44 = .ok (.iload_n 2, 1) := by decide +kernel
theorem dX11_lift_45 : decode cX11_lift 45 = .ok (.iastore, 1) := by decide +kernel
theorem dX11_lift_46 : decode cX11_lift 46 = .ok (.iload_n 3, 1) := by decide +kernel
theorem dX11_lift_47 : decode cX11_lift 47 = .ok (.ireturn, 1) := by decide +kernel
theorem dX11_height_0 : decode cX11_height 0 = .ok (.aload_n 0, 1) := by decide +kernel
theorem dX11_height_1 : decode cX11_height 1 = .ok (.getfield 21, 3) := by decide +kernel
theorem dX11_height_4 : decode cX11_height 4 = .ok (.iload_n 1, 1) := by decide +kernel
theorem dX11_height_5 : decode cX11_height 5 = .ok (.invokevirtual 106, 3) := by decide +kernel
theorem dX11_height_8 : decode cX11_height 8 = .ok (.ifCond .eq 10, 3) := by decide +kernel
theorem dX11_height_11 : decode cX11_height 11 = .ok (.iload_n 2, 1) := by decide +kernel
theorem dX11_height_12 : decode cX11_height 12 = .ok (.invokestatic 119, 3) := by decide +kernel
theorem dX11_height_15 : decode cX11_height 15 = .ok (.ifCond .ne 5, 3) := by decide +kernel
theorem dX11_height_18 : decode cX11_height 18 = .ok (.iconst (-1), 1) := by decide +kernel
theorem dX11_height_19 : decode cX11_height 19 = .ok (.ireturn, 1) := by decide +kernel
theorem dX11_height_20 : decode cX11_height 20 = .ok (.aload_n 0, 1) := by decide +kernel
theorem dX11_height_21 : decode cX11_height 21 = .ok (.getfield 21, 3) := by decide +kernel
theorem dX11_height_24 : decode cX11_height 24 = .ok (.iload_n 1, 1) := by decide +kernel
theorem dX11_height_25 : decode cX11_height 25 = .ok (.iload_n 2, 1) := by decide +kernel
theorem dX11_height_26 : decode cX11_height 26 = .ok (.invokevirtual 136, 3) := by decide +kernel
theorem dX11_height_29 : decode cX11_height 29 = .ok (.ireturn, 1) := by decide +kernel
theorem dX11_rises_0 : decode cX11_rises 0 = .ok (.aload_n 0, 1) := by decide +kernel
theorem dX11_rises_1 : decode cX11_rises 1 = .ok (.getfield 21, 3) := by decide +kernel
theorem dX11_rises_4 : decode cX11_rises 4 = .ok (.iload_n 1, 1) := by decide +kernel
theorem dX11_rises_5 : decode cX11_rises 5 = .ok (.invokevirtual 106, 3) := by decide +kernel
theorem dX11_rises_8 : decode cX11_rises 8 = .ok (.ifCond .ne 5, 3) := by decide +kernel
theorem dX11_rises_11 : decode cX11_rises 11 = .ok (.iconst (-1), 1) := by decide +kernel
theorem dX11_rises_12 : decode cX11_rises 12 = .ok (.ireturn, 1) := by decide +kernel
theorem dX11_rises_13 : decode cX11_rises 13 = .ok (.iload_n 2, 1) := by decide +kernel
theorem dX11_rises_14 : decode cX11_rises 14 = .ok (.iconst 0, 1) := by decide +kernel
theorem dX11_rises_15 : decode cX11_rises 15 = .ok (.iconst 1, 1) := by decide +kernel
theorem dX11_rises_16 : decode cX11_rises 16 = .ok (.invokestatic 122, 3) := by decide +kernel
theorem dX11_rises_19 : decode cX11_rises 19 = .ok (.ifCond .ne 6, 3) := by decide +kernel
theorem dX11_rises_22 : decode cX11_rises 22 = .ok (.bipush (-2), 2) := by decide +kernel
theorem dX11_rises_24 : decode cX11_rises 24 = .ok (.ireturn, 1) := by decide +kernel
theorem dX11_rises_25 : decode cX11_rises 25 = .ok (.iload_n 2, 1) := by decide +kernel
theorem dX11_rises_26 : decode cX11_rises 26 = .ok (.ifCond .ne 14, 3) := by decide +kernel
theorem dX11_rises_29 : decode cX11_rises 29 = .ok (.aload_n 0, 1) := by decide +kernel
theorem dX11_rises_30 : decode cX11_rises 30 = .ok (.getfield 21, 3) := by decide +kernel
theorem dX11_rises_33 : decode cX11_rises 33 = .ok (.iload_n 1, 1) := by decide +kernel
theorem dX11_rises_34 : decode cX11_rises 34 = .ok (.invokevirtual 140, 3) := by decide +kernel
theorem dX11_rises_37 : decode cX11_rises 37 = .ok (.goto 11, 3) := by decide +kernel
theorem dX11_rises_40 : decode cX11_rises 40 = .ok (.aload_n 0, 1) := by decide +kernel
theorem dX11_rises_41 : decode cX11_rises 41 = .ok (.getfield 21, 3) := by decide +kernel
theorem dX11_rises_44 : decode cX11_rises 44 = .ok (.iload_n 1, 1) := by decide +kernel
theorem dX11_rises_45 : decode cX11_rises 45 = .ok (.invokevirtual 143, 3) := by decide +kernel
theorem dX11_rises_48 : decode cX11_rises 48 = .ok (.ireturn, 1) := by decide +kernel
theorem dX11_way_0 : decode cX11_way 0 = .ok (.aload_n 0, 1) := by decide +kernel
theorem dX11_way_1 : decode cX11_way 1 = .ok (.getfield 21, 3) := by decide +kernel
theorem dX11_way_4 : decode cX11_way 4 = .ok (.iload_n 1, 1) := by decide +kernel
theorem dX11_way_5 : decode cX11_way 5 = .ok (.invokevirtual 106, 3) := by decide +kernel
theorem dX11_way_8 : decode cX11_way 8 = .ok (.ifCond .eq 27, 3) := by decide +kernel
theorem dX11_way_11 : decode cX11_way 11 = .ok (.aload_n 0, 1) := by decide +kernel
theorem dX11_way_12 : decode cX11_way 12 = .ok (.getfield 21, 3) := by decide +kernel
theorem dX11_way_15 : decode cX11_way 15 = .ok (.iload_n 2, 1) := by decide +kernel
theorem dX11_way_16 : decode cX11_way 16 = .ok (.invokevirtual 106, 3) := by decide +kernel
theorem dX11_way_19 : decode cX11_way 19 = .ok (.ifCond .eq 16, 3) := by decide +kernel
theorem dX11_way_22 : decode cX11_way 22 = .ok (.iload_n 3, 1) := by decide +kernel
theorem dX11_way_23 : decode cX11_way 23 = .ok (.invokestatic 119, 3) := by decide +kernel
theorem dX11_way_26 : decode cX11_way 26 = .ok (.ifCond .eq 9, 3) := by decide +kernel
theorem dX11_way_29 : decode cX11_way 29 = .ok (.iload 5, 2) := by decide +kernel
theorem dX11_way_31 : decode cX11_way 31 = .ok (.iconst (-1), 1) := by decide +kernel
theorem dX11_way_32 : decode cX11_way 32 = .ok (.if_icmp .ge 5, 3) := by decide +kernel
theorem dX11_way_35 : decode cX11_way 35 = .ok (.iconst (-1), 1) := by decide +kernel
theorem dX11_way_36 : decode cX11_way 36 = .ok (.ireturn, 1) := by decide +kernel
theorem dX11_way_37 : decode cX11_way 37 = .ok (.iload 4, 2) := by decide +kernel
theorem dX11_way_39 : decode cX11_way 39 = .ok (.invokestatic 146, 3) := by decide +kernel
theorem dX11_way_42 : decode cX11_way 42 = .ok (.ifCond .ne 6, 3) := by decide +kernel
theorem dX11_way_45 : decode cX11_way 45 = .ok (.bipush (-2), 2) := by decide +kernel
theorem dX11_way_47 : decode cX11_way 47 = .ok (.ireturn, 1) := by decide +kernel
theorem dX11_way_48 : decode cX11_way 48 = .ok (.aload_n 0, 1) := by decide +kernel
theorem dX11_way_49 : decode cX11_way 49 = .ok (.getfield 30, 3) := by decide +kernel
theorem dX11_way_52 : decode cX11_way 52 = .ok (.iload_n 3, 1) := by decide +kernel
theorem dX11_way_53 : decode cX11_way 53 = .ok (.iload_n 3, 1) := by decide +kernel
theorem dX11_way_54 : decode cX11_way 54 = .ok (.invokevirtual 149, 3) := by decide +kernel
theorem dX11_way_57 : decode cX11_way 57 = .ok (.aload_n 0, 1) := by decide +kernel
theorem dX11_way_58 : decode cX11_way 58 = .ok (.getfield 30, 3) := by decide +kernel
theorem dX11_way_61 : decode cX11_way 61 = .ok (.iload_n 2, 1) := by decide +kernel
theorem dX11_way_62 : decode cX11_way 62 = .ok (.iload 4, 2) := by decide +kernel
theorem dX11_way_64 : decode cX11_way 64 = .ok (.invokevirtual 153, 3) := by decide +kernel
theorem dX11_way_67 : decode cX11_way 67 = .ok (.iload 5, 2) := by decide +kernel
theorem dX11_way_69 : decode cX11_way 69 = .ok (.iconst (-1), 1) := by decide +kernel
theorem dX11_way_70 : decode cX11_way 70 = .ok (.if_icmp .ne 15, 3) := by decide +kernel
theorem dX11_way_73 : decode cX11_way 73 = .ok (.aload_n 0, 1) := by decide +kernel
theorem dX11_way_74 : decode cX11_way 74 = .ok (.getfield 30, 3) := by decide +kernel
theorem dX11_way_77 : decode cX11_way 77 = .ok (.getfield 156, 3) := by decide +kernel
theorem dX11_way_80 : decode cX11_way 80 = .ok (.iload_n 1, 1) := by decide +kernel
theorem dX11_way_81 : decode cX11_way 81 = .ok (.iaload, 1) := by decide +kernel
theorem dX11_way_82 : decode cX11_way 82 = .ok (.goto 15, 3) := by decide +kernel
theorem dX11_way_85 : decode cX11_way 85 = .ok (.aload_n 0, 1) := by decide +kernel
theorem dX11_way_86 : decode cX11_way 86 = .ok (.getfield 30, 3) := by decide +kernel
theorem dX11_way_89 : decode cX11_way 89 = .ok (.iload_n 1, 1) := by decide +kernel
theorem dX11_way_90 : decode cX11_way 90 = .ok (.iload 4, 2) := by decide +kernel
theorem dX11_way_92 : decode cX11_way 92 = .ok (.iload 5, 2) := by decide +kernel
theorem dX11_way_94 : decode cX11_way 94 = .ok (.invokevirtual 159, 3) := by decide +kernel
theorem dX11_way_97 : decode cX11_way 97 = .ok (.ireturn, 1) := by decide +kernel
theorem dX11_holds_0 : decode cX11_holds 0 = .ok (.aload_n 0, 1) := by decide +kernel
theorem dX11_holds_1 : decode cX11_holds 1 = .ok (.getfield 21, 3) := by decide +kernel
theorem dX11_holds_4 : decode cX11_holds 4 = .ok (.iload_n 1, 1) := by decide +kernel
theorem dX11_holds_5 : decode cX11_holds 5 = .ok (.invokevirtual 106, 3) := by decide +kernel
theorem dX11_holds_8 : decode cX11_holds 8 = .ok (.ifCond .eq 14, 3) := by decide +kernel
theorem dX11_holds_11 : decode cX11_holds 11 = .ok (.aload_n 0, 1) := by decide +kernel
theorem dX11_holds_12 : decode cX11_holds 12 = .ok (.getfield 21, 3) := by decide +kernel
theorem dX11_holds_15 : decode cX11_holds 15 = .ok (.iload_n 2, 1) := by decide +kernel
theorem dX11_holds_16 : decode cX11_holds 16 = .ok (.invokevirtual 106, 3) := by decide +kernel
theorem dX11_holds_19 : decode cX11_holds 19 = .ok (.ifCond .ne 5, 3) := by decide +kernel
theorem dX11_holds_22 : decode cX11_holds 22 = .ok (.iconst (-1), 1) := by decide +kernel
theorem dX11_holds_23 : decode cX11_holds 23 = .ok (.ireturn, 1) := by decide +kernel
theorem dX11_holds_24 : decode cX11_holds 24 = .ok (.iload_n 3, 1) := by decide +kernel
theorem dX11_holds_25 : decode cX11_holds 25 = .ok (.invokestatic 119, 3) := by decide +kernel
theorem dX11_holds_28 : decode cX11_holds 28 = .ok (.ifCond .eq 17, 3) := by decide +kernel
theorem dX11_holds_31 : decode cX11_holds 31 = .ok (.iload 4, 2) := by decide +kernel
theorem dX11_holds_33 : decode cX11_holds 33 = .ok (.invokestatic 119, 3) := by decide +kernel
theorem dX11_holds_36 : decode cX11_holds 36 = .ok (.ifCond .eq 9, 3) := by decide +kernel
theorem dX11_holds_39 : decode cX11_holds 39 = .ok (.iload 4, 2) := by decide +kernel
theorem dX11_holds_41 : decode cX11_holds 41 = .ok (.iload_n 3, 1) := by decide +kernel
theorem dX11_holds_42 : decode cX11_holds 42 = .ok (.if_icmp .ge 5, 3) := by decide +kernel
theorem dX11_holds_45 : decode cX11_holds 45 = .ok (.iconst (-1), 1) := by decide +kernel
theorem dX11_holds_46 : decode cX11_holds 46 = .ok (.ireturn, 1) := by decide +kernel
theorem dX11_holds_47 : decode cX11_holds 47 = .ok (.iload 5, 2) := by decide +kernel
theorem dX11_holds_49 : decode cX11_holds 49 = .ok (.invokestatic 146, 3) := by decide +kernel
theorem dX11_holds_52 : decode cX11_holds 52 = .ok (.ifCond .ne 6, 3) := by decide +kernel
theorem dX11_holds_55 : decode cX11_holds 55 = .ok (.bipush (-2), 2) := by decide +kernel
theorem dX11_holds_57 : decode cX11_holds 57 = .ok (.ireturn, 1) := by decide +kernel
theorem dX11_holds_58 : decode cX11_holds 58 = .ok (.aload_n 0, 1) := by decide +kernel
theorem dX11_holds_59 : decode cX11_holds 59 = .ok (.getfield 30, 3) := by decide +kernel
theorem dX11_holds_62 : decode cX11_holds 62 = .ok (.iload_n 3, 1) := by decide +kernel
theorem dX11_holds_63 : decode cX11_holds 63 = .ok (.iload 4, 2) := by decide +kernel
theorem dX11_holds_65 : decode cX11_holds 65 = .ok (.invokevirtual 149, 3) := by decide +kernel
theorem dX11_holds_68 : decode cX11_holds 68 = .ok (.aload_n 0, 1) := by decide +kernel
theorem dX11_holds_69 : decode cX11_holds 69 = .ok (.getfield 30, 3) := by decide +kernel
theorem dX11_holds_72 : decode cX11_holds 72 = .ok (.iload_n 2, 1) := by decide +kernel
theorem dX11_holds_73 : decode cX11_holds 73 = .ok (.iload 5, 2) := by decide +kernel
theorem dX11_holds_75 : decode cX11_holds 75 = .ok (.invokevirtual 153, 3) := by decide +kernel
theorem dX11_holds_78 : decode cX11_holds 78 = .ok (.aload_n 0, 1) := by decide +kernel
theorem dX11_holds_79 : decode cX11_holds 79 = .ok (.getfield 30, 3) := by decide +kernel
theorem dX11_holds_82 : decode cX11_holds 82 = .ok (.getfield 156, 3) := by decide +kernel
theorem dX11_holds_85 : decode cX11_holds 85 = .ok (.iload_n 1, 1) := by decide +kernel
theorem dX11_holds_86 : decode cX11_holds 86 = .ok (.iaload, 1) := by decide +kernel
theorem dX11_holds_87 : decode cX11_holds 87 = .ok (.ireturn, 1) := by decide +kernel
theorem dX11_leastStep_0 : decode cX11_leastStep 0 = .ok (.aload_n 0, 1) := by decide +kernel
theorem dX11_leastStep_1 : decode cX11_leastStep 1 = .ok (.getfield 21, 3) := by decide +kernel
theorem dX11_leastStep_4 : decode cX11_leastStep 4 = .ok (.iload_n 1, 1) := by decide +kernel
theorem dX11_leastStep_5 : decode cX11_leastStep 5 = .ok (.invokevirtual 106, 3) := by decide +kernel
theorem dX11_leastStep_8 : decode cX11_leastStep 8 = .ok (.ifCond .eq 21, 3) := by decide +kernel
theorem dX11_leastStep_11 : decode cX11_leastStep 11 = .ok (.aload_n 0, 1) := by decide +kernel
theorem dX11_leastStep_12 : decode cX11_leastStep 12 = .ok (.getfield 21, 3) := by decide +kernel
theorem dX11_leastStep_15 : decode cX11_leastStep 15 = .ok (.iload_n 2, 1) := by decide +kernel
theorem dX11_leastStep_16 : decode cX11_leastStep 16 = .ok (.invokevirtual 106, 3) := by decide +kernel
theorem dX11_leastStep_19 : decode cX11_leastStep 19 = .ok (.ifCond .eq 10, 3) := by decide +kernel
theorem dX11_leastStep_22 : decode cX11_leastStep 22 = .ok (.iload_n 3, 1) := by decide +kernel
theorem dX11_leastStep_23 : decode cX11_leastStep 23 = .ok (.invokestatic 119, 3) := by decide +kernel
theorem dX11_leastStep_26 : decode cX11_leastStep 26 = .ok (.ifCond .ne 5, 3) := by decide +kernel
theorem dX11_leastStep_29 : decode cX11_leastStep 29 = .ok (.iconst (-1), 1) := by decide +kernel
theorem dX11_leastStep_30 : decode cX11_leastStep 30 = .ok (.ireturn, 1) := by decide +kernel
theorem dX11_leastStep_31 : decode cX11_leastStep 31 = .ok (.aload_n 0, 1) := by decide +kernel
theorem dX11_leastStep_32 : decode cX11_leastStep 32 = .ok (.getfield 30, 3) := by decide +kernel
theorem dX11_leastStep_35 : decode cX11_leastStep 35 = .ok (.iload_n 3, 1) := by decide +kernel
theorem dX11_leastStep_36 : decode cX11_leastStep 36 = .ok (.iload_n 3, 1) := by decide +kernel
theorem dX11_leastStep_37 : decode cX11_leastStep 37 = .ok (.invokevirtual 149, 3) := by decide +kernel
theorem dX11_leastStep_40 : decode cX11_leastStep 40 = .ok (.aload_n 0, 1) := by decide +kernel
theorem dX11_leastStep_41 : decode cX11_leastStep 41 = .ok (.getfield 30, 3) := by decide +kernel
theorem dX11_leastStep_44 : decode cX11_leastStep 44 = .ok (.iload_n 1, 1) := by decide +kernel
theorem dX11_leastStep_45 : decode cX11_leastStep 45 = .ok (.iload_n 2, 1) := by decide +kernel
theorem dX11_leastStep_46 : decode cX11_leastStep 46 = .ok (.invokevirtual 163, 3) := by decide +kernel
theorem dX11_leastStep_49 : decode cX11_leastStep 49 = .ok (.ireturn, 1) := by decide +kernel
theorem dX11_wedges_0 : decode cX11_wedges 0 = .ok (.aload_n 0, 1) := by decide +kernel
theorem dX11_wedges_1 : decode cX11_wedges 1 = .ok (.getfield 21, 3) := by decide +kernel
theorem dX11_wedges_4 : decode cX11_wedges 4 = .ok (.iload_n 1, 1) := by decide +kernel
theorem dX11_wedges_5 : decode cX11_wedges 5 = .ok (.invokevirtual 166, 3) := by decide +kernel
theorem dX11_wedges_8 : decode cX11_wedges 8 = .ok (.ifCond .eq 10, 3) := by decide +kernel
theorem dX11_wedges_11 : decode cX11_wedges 11 = .ok (.iload_n 2, 1) := by decide +kernel
theorem dX11_wedges_12 : decode cX11_wedges 12 = .ok (.invokestatic 119, 3) := by decide +kernel
theorem dX11_wedges_15 : decode cX11_wedges 15 = .ok (.ifCond .ne 5, 3) := by decide +kernel
theorem dX11_wedges_18 : decode cX11_wedges 18 = .ok (.iconst (-1), 1) := by decide +kernel
theorem dX11_wedges_19 : decode cX11_wedges 19 = .ok (.ireturn, 1) := by decide +kernel
theorem dX11_wedges_20 : decode cX11_wedges 20 = .ok (.aload_n 0, 1) := by decide +kernel
theorem dX11_wedges_21 : decode cX11_wedges 21 = .ok (.getfield 37, 3) := by decide +kernel
theorem dX11_wedges_24 : decode cX11_wedges 24 = .ok (.iload_n 2, 1) := by decide +kernel
theorem dX11_wedges_25 : decode cX11_wedges 25 = .ok (.invokevirtual 169, 3) := by decide +kernel
theorem dX11_wedges_28 : decode cX11_wedges 28 = .ok (.aload_n 0, 1) := by decide +kernel
theorem dX11_wedges_29 : decode cX11_wedges 29 = .ok (.getfield 37, 3) := by decide +kernel
theorem dX11_wedges_32 : decode cX11_wedges 32 = .ok (.iload_n 1, 1) := by decide +kernel
theorem dX11_wedges_33 : decode cX11_wedges 33 = .ok (.invokevirtual 172, 3) := by decide +kernel
theorem dX11_wedges_36 : decode cX11_wedges 36 = .ok (.ireturn, 1) := by decide +kernel
theorem dX11_best_0 : decode cX11_best 0 = .ok (.aload_n 0, 1) := by decide +kernel
theorem dX11_best_1 : decode cX11_best 1 = .ok (.iload_n 1, 1) := by decide +kernel
theorem dX11_best_2 : decode cX11_best 2 = .ok (.iload_n 2, 1) := by decide +kernel
theorem dX11_best_3 : decode cX11_best 3 = .ok (.iconst 0, 1) := by decide +kernel
theorem dX11_best_4 : decode cX11_best 4 = .ok (.iconst 1, 1) := by decide +kernel
theorem dX11_best_5 : decode cX11_best 5 = .ok (.invokestatic 122, 3) := by decide +kernel
theorem dX11_best_8 : decode cX11_best 8 = .ok (.invokevirtual 175, 3) := by decide +kernel
theorem dX11_best_11 : decode cX11_best 11 = .ok (.istore_n 3, 1) := by decide +kernel
theorem dX11_best_12 : decode cX11_best 12 = .ok (.iload_n 3, 1) := by decide +kernel
theorem dX11_best_13 : decode cX11_best 13 = .ok (.ifCond .eq 5, 3) := by decide +kernel
theorem dX11_best_16 : decode cX11_best 16 = .ok (.iload_n 3, 1) := by decide +kernel
theorem dX11_best_17 : decode cX11_best 17 = .ok (.ireturn, 1) := by decide +kernel
theorem dX11_best_18 : decode cX11_best 18 = .ok (.aload_n 0, 1) := by decide +kernel
theorem dX11_best_19 : decode cX11_best 19 = .ok (.getfield 37, 3) := by decide +kernel
theorem dX11_best_22 : decode cX11_best 22 = .ok (.iload_n 1, 1) := by decide +kernel
theorem dX11_best_23 : decode cX11_best 23 = .ok (.invokevirtual 169, 3) := by decide +kernel
theorem dX11_best_26 : decode cX11_best 26 = .ok (.aload_n 0, 1) := by decide +kernel
theorem dX11_best_27 : decode cX11_best 27 = .ok (.getfield 37, 3) := by decide +kernel
theorem dX11_best_30 : decode cX11_best 30 = .ok (.invokevirtual 179, 3) := by decide +kernel
theorem dX11_best_33 : decode cX11_best 33 = .ok (.istore 4, 2) := by decide +kernel
theorem dX11_best_35 : decode cX11_best 35 = .ok (.iload_n 2, 1) := by decide +kernel
theorem dX11_best_36 : decode cX11_best 36 = .ok (.ifCond .ne 8, 3) := by decide +kernel
theorem dX11_best_39 : decode cX11_best 39 = .ok (.iload 4, 2) := by decide +kernel
theorem dX11_best_41 : decode cX11_best 41 = .ok (.goto 12, 3) := by decide +kernel
theorem dX11_best_44 : decode cX11_best 44 = .ok (.aload_n 0, 1) := by decide +kernel
theorem dX11_best_45 : decode cX11_best 45 = .ok (.getfield 37, 3) := by decide +kernel
theorem dX11_best_48 : decode cX11_best 48 = .ok (.iload 4, 2) := by decide +kernel
theorem dX11_best_50 : decode cX11_best 50 = .ok (.invokevirtual 172, 3) := by decide +kernel
theorem dX11_best_53 : decode cX11_best 53 = .ok (.ireturn, 1) := by decide +kernel
theorem dX11_two_0 : decode cX11_two 0 = .ok (.aload_n 0, 1) := by decide +kernel
theorem dX11_two_1 : decode cX11_two 1 = .ok (.iload_n 1, 1) := by decide +kernel
theorem dX11_two_2 : decode cX11_two 2 = .ok (.iload_n 2, 1) := by decide +kernel
theorem dX11_two_3 : decode cX11_two 3 = .ok (.iconst 0, 1) := by decide +kernel
theorem dX11_two_4 : decode cX11_two 4 = .ok (.iconst 2, 1) := by decide +kernel
theorem dX11_two_5 : decode cX11_two 5 = .ok (.invokestatic 122, 3) := by decide +kernel
theorem dX11_two_8 : decode cX11_two 8 = .ok (.invokevirtual 175, 3) := by decide +kernel
theorem dX11_two_11 : decode cX11_two 11 = .ok (.istore_n 3, 1) := by decide +kernel
theorem dX11_two_12 : decode cX11_two 12 = .ok (.iload_n 3, 1) := by decide +kernel
theorem dX11_two_13 : decode cX11_two 13 = .ok (.ifCond .eq 5, 3) := by decide +kernel
theorem dX11_two_16 : decode cX11_two 16 = .ok (.iload_n 3, 1) := by decide +kernel
theorem dX11_two_17 : decode cX11_two 17 = .ok (.ireturn, 1) := by decide +kernel
theorem dX11_two_18 : decode cX11_two 18 = .ok (.aload_n 0, 1) := by decide +kernel
theorem dX11_two_19 : decode cX11_two 19 = .ok (.getfield 37, 3) := by decide +kernel
theorem dX11_two_22 : decode cX11_two 22 = .ok (.iload_n 1, 1) := by decide +kernel
theorem dX11_two_23 : decode cX11_two 23 = .ok (.invokevirtual 169, 3) := by decide +kernel
theorem dX11_two_26 : decode cX11_two 26 = .ok (.aload_n 0, 1) := by decide +kernel
theorem dX11_two_27 : decode cX11_two 27 = .ok (.getfield 37, 3) := by decide +kernel
theorem dX11_two_30 : decode cX11_two 30 = .ok (.invokevirtual 182, 3) := by decide +kernel
theorem dX11_two_33 : decode cX11_two 33 = .ok (.iload_n 2, 1) := by decide +kernel
theorem dX11_two_34 : decode cX11_two 34 = .ok (.iconst 2, 1) := by decide +kernel
theorem dX11_two_35 : decode cX11_two 35 = .ok (.if_icmp .ne 11, 3) := by decide +kernel
theorem dX11_two_38 : decode cX11_two 38 = .ok (.aload_n 0, 1) := by decide +kernel
theorem dX11_two_39 : decode cX11_two 39 = .ok (.getfield 37, 3) := by decide +kernel
theorem dX11_two_42 : decode cX11_two 42 = .ok (.getfield 185, 3) := by decide +kernel
theorem dX11_two_45 : decode cX11_two 45 = .ok (.ireturn, 1) := by decide +kernel
theorem dX11_two_46 : decode cX11_two 46 = .ok (.iload_n 2, 1) := by decide +kernel
theorem dX11_two_47 : decode cX11_two 47 = .ok (.ifCond .ne 13, 3) := by decide +kernel
theorem dX11_two_50 : decode cX11_two 50 = .ok (.aload_n 0, 1) := by decide +kernel
theorem dX11_two_51 : decode cX11_two 51 = .ok (.getfield 37, 3) := by decide +kernel
theorem dX11_two_54 : decode cX11_two 54 = .ok (.getfield 188, 3) := by decide +kernel
theorem dX11_two_57 : decode cX11_two 57 = .ok (.goto 10, 3) := by decide +kernel
theorem dX11_two_60 : decode cX11_two 60 = .ok (.aload_n 0, 1) := by decide +kernel
theorem dX11_two_61 : decode cX11_two 61 = .ok (.getfield 37, 3) := by decide +kernel
theorem dX11_two_64 : decode cX11_two 64 = .ok (.getfield 191, 3) := by decide +kernel
theorem dX11_two_67 : decode cX11_two 67 = .ok (.ireturn, 1) := by decide +kernel
theorem dX11_oval_0 : decode cX11_oval 0 = .ok (.aload_n 0, 1) := by decide +kernel
theorem dX11_oval_1 : decode cX11_oval 1 = .ok (.iload_n 1, 1) := by decide +kernel
theorem dX11_oval_2 : decode cX11_oval 2 = .ok (.iload_n 2, 1) := by decide +kernel
theorem dX11_oval_3 : decode cX11_oval 3 = .ok (.invokestatic 146, 3) := by decide +kernel
theorem dX11_oval_6 : decode cX11_oval 6 = .ok (.ifCond .eq 16, 3) := by decide +kernel
theorem dX11_oval_9 : decode cX11_oval 9 = .ok (.iload_n 3, 1) := by decide +kernel
theorem dX11_oval_10 : decode cX11_oval 10 = .ok (.iconst 0, 1) := by decide +kernel
theorem dX11_oval_11 : decode cX11_oval 11 = .ok (.iconst 2, 1) := by decide +kernel
theorem dX11_oval_12 : decode cX11_oval 12 = .ok (.invokestatic 122, 3) := by decide +kernel
theorem dX11_oval_15 : decode cX11_oval 15 = .ok (.ifCond .eq 7, 3) := by decide +kernel
theorem dX11_oval_18 : decode cX11_oval 18 = .ok (.iconst 1, 1) := by decide +kernel
theorem dX11_oval_19 : decode cX11_oval 19 = .ok (.goto 4, 3) := by decide +kernel
theorem dX11_oval_22 : decode cX11_oval 22 = .ok (.iconst 0, 1) := by decide +kernel
theorem dX11_oval_23 : decode cX11_oval 23 = .ok (.invokevirtual 175, 3) := by decide +kernel
theorem dX11_oval_26 : decode cX11_oval 26 = .ok (.istore 4, 2) := by decide +kernel
theorem dX11_oval_28 : decode cX11_oval 28 = .ok (.iload 4, 2) := by decide +kernel
theorem dX11_oval_30 : decode cX11_oval 30 = .ok (.ifCond .eq 6, 3) := by decide +kernel
theorem dX11_oval_33 : decode cX11_oval 33 = .ok (.iload 4, 2) := by decide +kernel
theorem dX11_oval_35 : decode cX11_oval 35 = .ok (.ireturn, 1) := by decide +kernel
theorem dX11_oval_36 : decode cX11_oval 36 = .ok (.aload_n 0, 1) := by decide +kernel
theorem dX11_oval_37 : decode cX11_oval 37 = .ok (.getfield 37, 3) := by decide +kernel
theorem dX11_oval_40 : decode cX11_oval 40 = .ok (.iload_n 1, 1) := by decide +kernel
theorem dX11_oval_41 : decode cX11_oval 41 = .ok (.invokevirtual 169, 3) := by decide +kernel
theorem dX11_oval_44 : decode cX11_oval 44 = .ok (.aload_n 0, 1) := by decide +kernel
theorem dX11_oval_45 : decode cX11_oval 45 = .ok (.getfield 37, 3) := by decide +kernel
theorem dX11_oval_48 : decode cX11_oval 48 = .ok (.iload_n 2, 1) := by decide +kernel
theorem dX11_oval_49 : decode cX11_oval 49 = .ok (.invokevirtual 194, 3) := by decide +kernel
theorem dX11_oval_52 : decode cX11_oval 52 = .ok (.iload_n 3, 1) := by decide +kernel
theorem dX11_oval_53 : decode cX11_oval 53 = .ok (.ifCond .ne 11, 3) := by decide +kernel
theorem dX11_oval_56 : decode cX11_oval 56 = .ok (.aload_n 0, 1) := by decide +kernel
theorem dX11_oval_57 : decode cX11_oval 57 = .ok (.getfield 37, 3) := by decide +kernel
theorem dX11_oval_60 : decode cX11_oval 60 = .ok (.getfield 185, 3) := by decide +kernel
theorem dX11_oval_63 : decode cX11_oval 63 = .ok (.ireturn, 1) := by decide +kernel
theorem dX11_oval_64 : decode cX11_oval 64 = .ok (.iload_n 3, 1) := by decide +kernel
theorem dX11_oval_65 : decode cX11_oval 65 = .ok (.iconst 1, 1) := by decide +kernel
theorem dX11_oval_66 : decode cX11_oval 66 = .ok (.if_icmp .ne 13, 3) := by decide +kernel
theorem dX11_oval_69 : decode cX11_oval 69 = .ok (.aload_n 0, 1) := by decide +kernel
theorem dX11_oval_70 : decode cX11_oval 70 = .ok (.getfield 37, 3) := by decide +kernel
theorem dX11_oval_73 : decode cX11_oval 73 = .ok (.getfield 188, 3) := by decide +kernel
theorem dX11_oval_76 : decode cX11_oval 76 = .ok (.goto 10, 3) := by decide +kernel
theorem dX11_oval_79 : decode cX11_oval 79 = .ok (.aload_n 0, 1) := by decide +kernel
theorem dX11_oval_80 : decode cX11_oval 80 = .ok (.getfield 37, 3) := by decide +kernel
theorem dX11_oval_83 : decode cX11_oval 83 = .ok (.getfield 191, 3) := by decide +kernel
theorem dX11_oval_86 : decode cX11_oval 86 = .ok (.ireturn, 1) := by decide +kernel
theorem dX11_depth_0 : decode cX11_depth 0 = .ok (.aload_n 0, 1) := by decide +kernel
theorem dX11_depth_1 : decode cX11_depth 1 = .ok (.getfield 21, 3) := by decide +kernel
theorem dX11_depth_4 : decode cX11_depth 4 = .ok (.iload_n 1, 1) := by decide +kernel
theorem dX11_depth_5 : decode cX11_depth 5 = .ok (.invokevirtual 106, 3) := by decide +kernel
theorem dX11_depth_8 : decode cX11_depth 8 = .ok (.ifCond .eq 10, 3) := by decide +kernel
theorem dX11_depth_11 : decode cX11_depth 11 = .ok (.iload_n 2, 1) := by decide +kernel
theorem dX11_depth_12 : decode cX11_depth 12 = .ok (.invokestatic 119, 3) := by decide +kernel
theorem dX11_depth_15 : decode cX11_depth 15 = .ok (.ifCond .ne 5, 3) := by decide +kernel
theorem dX11_depth_18 : decode cX11_depth 18 = .ok (.iconst (-1), 1) := by decide +kernel
theorem dX11_depth_19 : decode cX11_depth 19 = .ok (.ireturn, 1) := by decide +kernel
theorem dX11_depth_20 : decode cX11_depth 20 = .ok (.aload_n 0, 1) := by decide +kernel
theorem dX11_depth_21 : decode cX11_depth 21 = .ok (.getfield 44, 3) := by decide +kernel
theorem dX11_depth_24 : decode cX11_depth 24 = .ok (.iload_n 2, 1) := by decide +kernel
theorem dX11_depth_25 : decode cX11_depth 25 = .ok (.invokevirtual 197, 3) := by decide +kernel
theorem dX11_depth_28 : decode cX11_depth 28 = .ok (.aload_n 0, 1) := by decide +kernel
theorem dX11_depth_29 : decode cX11_depth 29 = .ok (.getfield 44, 3) := by decide +kernel
theorem dX11_depth_32 : decode cX11_depth 32 = .ok (.invokevirtual 198, 3) := by decide +kernel
theorem dX11_depth_35 : decode cX11_depth 35 = .ok (.aload_n 0, 1) := by decide +kernel
theorem dX11_depth_36 : decode cX11_depth 36 = .ok (.getfield 44, 3) := by decide +kernel
theorem dX11_depth_39 : decode cX11_depth 39 = .ok (.iload_n 1, 1) := by decide +kernel
theorem dX11_depth_40 : decode cX11_depth 40 = .ok (.invokevirtual 201, 3) := by decide +kernel
theorem dX11_depth_43 : decode cX11_depth 43 = .ok (.ireturn, 1) := by decide +kernel
theorem dX11_pool_0 : decode cX11_pool 0 = .ok (.aload_n 0, 1) := by decide +kernel
theorem dX11_pool_1 : decode cX11_pool 1 = .ok (.iload_n 1, 1) := by decide +kernel
theorem dX11_pool_2 : decode cX11_pool 2 = .ok (.iconst 1, 1) := by decide +kernel
theorem dX11_pool_3 : decode cX11_pool 3 = .ok (.invokevirtual 175, 3) := by decide +kernel
theorem dX11_pool_6 : decode cX11_pool 6 = .ok (.istore_n 2, 1) := by decide +kernel
theorem dX11_pool_7 : decode cX11_pool 7 = .ok (.iload_n 2, 1) := by decide +kernel
theorem dX11_pool_8 : decode cX11_pool 8 = .ok (.ifCond .eq 5, 3) := by decide +kernel
theorem dX11_pool_11 : decode cX11_pool 11 = .ok (.iload_n 2, 1) := by decide +kernel
theorem dX11_pool_12 : decode cX11_pool 12 = .ok (.ireturn, 1) := by decide +kernel
theorem dX11_pool_13 : decode cX11_pool 13 = .ok (.aload_n 0, 1) := by decide +kernel
theorem dX11_pool_14 : decode cX11_pool 14 = .ok (.getfield 44, 3) := by decide +kernel
theorem dX11_pool_17 : decode cX11_pool 17 = .ok (.iload_n 1, 1) := by decide +kernel
theorem dX11_pool_18 : decode cX11_pool 18 = .ok (.invokevirtual 197, 3) := by decide +kernel
theorem dX11_pool_21 : decode cX11_pool 21 = .ok (.aload_n 0, 1) := by decide +kernel
theorem dX11_pool_22 : decode cX11_pool 22 = .ok (.getfield 44, 3) := by decide +kernel
theorem dX11_pool_25 : decode cX11_pool 25 = .ok (.invokevirtual 204, 3) := by decide +kernel
theorem dX11_pool_28 : decode cX11_pool 28 = .ok (.ireturn, 1) := by decide +kernel
theorem dX11_drain_0 : decode cX11_drain 0 = .ok (.aload_n 0, 1) := by decide +kernel
theorem dX11_drain_1 : decode cX11_drain 1 = .ok (.iload_n 1, 1) := by decide +kernel
theorem dX11_drain_2 : decode cX11_drain 2 = .ok (.iload_n 2, 1) := by decide +kernel
theorem dX11_drain_3 : decode cX11_drain 3 = .ok (.iconst 1, 1) := by decide +kernel
theorem dX11_drain_4 : decode cX11_drain 4 = .ok (.bipush 99, 2) := by decide +kernel
theorem dX11_drain_6 : decode cX11_drain 6 = .ok (.invokestatic 122, 3) := by decide +kernel
theorem dX11_drain_9 : decode cX11_drain 9 = .ok (.ifCond .eq 16, 3) := by decide +kernel
theorem dX11_drain_12 : decode cX11_drain 12 = .ok (.iload_n 3, 1) := by decide +kernel
theorem dX11_drain_13 : decode cX11_drain 13 = .ok (.iconst 0, 1) := by decide +kernel
theorem dX11_drain_14 : decode cX11_drain 14 = .ok (.iconst 1, 1) := by decide +kernel
theorem dX11_drain_15 : decode cX11_drain 15 = .ok (.invokestatic 122, 3) := by decide +kernel
theorem dX11_drain_18 : decode cX11_drain 18 = .ok (.ifCond .eq 7, 3) := by decide +kernel
theorem dX11_drain_21 : decode cX11_drain 21 = .ok (.iconst 1, 1) := by decide +kernel
theorem dX11_drain_22 : decode cX11_drain 22 = .ok (.goto 4, 3) := by decide +kernel
theorem dX11_drain_25 : decode cX11_drain 25 = .ok (.iconst 0, 1) := by decide +kernel
theorem dX11_drain_26 : decode cX11_drain 26 = .ok (.invokevirtual 175, 3) := by decide +kernel
theorem dX11_drain_29 : decode cX11_drain 29 = .ok (.istore 4, 2) := by decide +kernel
theorem dX11_drain_31 : decode cX11_drain 31 = .ok (.iload 4, 2) := by decide +kernel
theorem dX11_drain_33 : decode cX11_drain 33 = .ok (.ifCond .eq 6, 3) := by decide +kernel
theorem dX11_drain_36 : decode cX11_drain 36 = .ok (.iload 4, 2) := by decide +kernel
theorem dX11_drain_38 : decode cX11_drain 38 = .ok (.ireturn, 1) := by decide +kernel
theorem dX11_drain_39 : decode cX11_drain 39 = .ok (.aload_n 0, 1) := by decide +kernel
theorem dX11_drain_40 : decode cX11_drain 40 = .ok (.getfield 44, 3) := by decide +kernel
theorem dX11_drain_43 : decode cX11_drain 43 = .ok (.iload_n 1, 1) := by decide +kernel
theorem dX11_drain_44 : decode cX11_drain 44 = .ok (.invokevirtual 197, 3) := by decide +kernel
theorem dX11_drain_47 : decode cX11_drain 47 = .ok (.aload_n 0, 1) := by decide +kernel
theorem dX11_drain_48 : decode cX11_drain 48 = .ok (.getfield 44, 3) := by decide +kernel
theorem dX11_drain_51 : decode cX11_drain 51 = .ok (.iload_n 2, 1) := by decide +kernel
theorem dX11_drain_52 : decode cX11_drain 52 = .ok (.invokevirtual 207, 3) := by decide +kernel
theorem dX11_drain_55 : decode cX11_drain 55 = .ok (.istore 5, 2) := by decide +kernel
theorem dX11_drain_57 : decode cX11_drain 57 = .ok (.iload_n 3, 1) := by decide +kernel
theorem dX11_drain_58 : decode cX11_drain 58 = .ok (.ifCond .ne 8, 3) := by decide +kernel
theorem dX11_drain_61 : decode cX11_drain 61 = .ok (.iload 5, 2) := by decide +kernel
theorem dX11_drain_63 : decode cX11_drain 63 = .ok (.goto 13, 3) := by decide +kernel
theorem dX11_drain_66 : decode cX11_drain 66 = .ok (.aload_n 0, 1) := by decide +kernel
theorem dX11_drain_67 : decode cX11_drain 67 = .ok (.getfield 44, 3) := by decide +kernel
theorem dX11_drain_70 : decode cX11_drain 70 = .ok (.iload 5, 2) := by decide +kernel
theorem dX11_drain_72 : decode cX11_drain 72 = .ok (.iload_n 2, 1) := by decide +kernel
theorem dX11_drain_73 : decode cX11_drain 73 = .ok (.invokevirtual 210, 3) := by decide +kernel
theorem dX11_drain_76 : decode cX11_drain 76 = .ok (.ireturn, 1) := by decide +kernel
theorem dX11_statue_0 : decode cX11_statue 0 = .ok (.aload_n 0, 1) := by decide +kernel
theorem dX11_statue_1 : decode cX11_statue 1 = .ok (.getfield 21, 3) := by decide +kernel
theorem dX11_statue_4 : decode cX11_statue 4 = .ok (.iload_n 1, 1) := by decide +kernel
theorem dX11_statue_5 : decode cX11_statue 5 = .ok (.invokevirtual 106, 3) := by decide +kernel
theorem dX11_statue_8 : decode cX11_statue 8 = .ok (.ifCond .eq 14, 3) := by decide +kernel
theorem dX11_statue_11 : decode cX11_statue 11 = .ok (.aload_n 0, 1) := by decide +kernel
theorem dX11_statue_12 : decode cX11_statue 12 = .ok (.getfield 21, 3) := by decide +kernel
theorem dX11_statue_15 : decode cX11_statue 15 = .ok (.iload_n 2, 1) := by decide +kernel
theorem dX11_statue_16 : decode cX11_statue 16 = .ok (.invokevirtual 106, 3) := by decide +kernel
theorem dX11_statue_19 : decode cX11_statue 19 = .ok (.ifCond .ne 5, 3) := by decide +kernel
theorem dX11_statue_22 : decode cX11_statue 22 = .ok (.iconst (-1), 1) := by decide +kernel
theorem dX11_statue_23 : decode cX11_statue 23 = .ok (.ireturn, 1) := by decide +kernel
theorem dX11_statue_24 : decode cX11_statue 24 = .ok (.iload_n 3, 1) := by decide +kernel
theorem dX11_statue_25 : decode cX11_statue 25 = .ok (.invokestatic 146, 3) := by decide +kernel
theorem dX11_statue_28 : decode cX11_statue 28 = .ok (.ifCond .ne 6, 3) := by decide +kernel
theorem dX11_statue_31 : decode cX11_statue 31 = .ok (.bipush (-2), 2) := by decide +kernel
theorem dX11_statue_33 : decode cX11_statue 33 = .ok (.ireturn, 1) := by decide +kernel
theorem dX11_statue_34 : decode cX11_statue 34 = .ok (.aload_n 0, 1) := by decide +kernel
theorem dX11_statue_35 : decode cX11_statue 35 = .ok (.getfield 21, 3) := by decide +kernel
theorem dX11_statue_38 : decode cX11_statue 38 = .ok (.iload_n 1, 1) := by decide +kernel
theorem dX11_statue_39 : decode cX11_statue 39 = .ok (.iload_n 2, 1) := by decide +kernel
theorem dX11_statue_40 : decode cX11_statue 40 = .ok (.invokevirtual 213, 3) := by decide +kernel
theorem dX11_statue_43 : decode cX11_statue 43 = .ok (.ifCond .ne 6, 3) := by decide +kernel
theorem dX11_statue_46 : decode cX11_statue 46 = .ok (.bipush (-3), 2) := by decide +kernel
theorem dX11_statue_48 : decode cX11_statue 48 = .ok (.ireturn, 1) := by decide +kernel
theorem dX11_statue_49 : decode cX11_statue 49 = .ok (.iconst 0, 1) := by decide +kernel
theorem dX11_statue_50 : decode cX11_statue 50 = .ok (.istore 4, 2) := by decide +kernel
theorem dX11_statue_52 : decode cX11_statue 52 = .ok (.iload 4, 2) := by decide +kernel
theorem dX11_statue_54 : decode cX11_statue 54 = .ok (.bipush 12, 2) := by decide +kernel
theorem dX11_statue_56 : decode cX11_statue 56 = .ok (.if_icmp .ge 40, 3) := by decide +kernel
theorem dX11_statue_59 : decode cX11_statue 59 = .ok (.aload_n 0, 1) := by decide +kernel
theorem dX11_statue_60 : decode cX11_statue 60 = .ok (.getfield 21, 3) := by decide +kernel
theorem dX11_statue_63 : decode cX11_statue 63 = .ok (.iload_n 1, 1) := by decide +kernel
theorem dX11_statue_64 : decode cX11_statue 64 = .ok (.iload 4, 2) := by decide +kernel
theorem dX11_statue_66 : decode cX11_statue 66 = .ok (.invokevirtual 136, 3) := by decide +kernel
theorem dX11_statue_69 : decode cX11_statue 69 = .ok (.aload_n 0, 1) := by decide +kernel
theorem dX11_statue_70 : decode cX11_statue 70 = .ok (.getfield 21, 3) := by decide +kernel
theorem dX11_statue_73 : decode cX11_statue 73 = .ok (.iload_n 2, 1) := by decide +kernel
theorem dX11_statue_74 : decode cX11_statue 74 = .ok (.iload 4, 2) := by decide +kernel
theorem dX11_statue_76 : decode cX11_statue 76 = .ok (.invokevirtual 136, 3) := by decide +kernel
theorem dX11_statue_79 : decode cX11_statue 79 = .ok (.isub, 1) := by decide +kernel
theorem dX11_statue_80 : decode cX11_statue 80 = .ok (.invokestatic 216, 3) := by decide +kernel
theorem dX11_statue_83 : decode cX11_statue 83 = .ok (.iload_n 3, 1) := by decide +kernel
theorem dX11_statue_84 : decode cX11_statue 84 = .ok (.if_icmp .le 6, 3) := by decide +kernel
theorem dX11_statue_87 : decode cX11_statue 87 = .ok (.iload 4, 2) := by decide +kernel
theorem dX11_statue_89 : decode cX11_statue 89 = .ok (.ireturn, 1) := by decide +kernel
theorem dX11_statue_90 : decode cX11_statue 90 = .ok (.iinc 4 1, 3) := by decide +kernel
theorem dX11_statue_93 : decode cX11_statue 93 = .ok (.goto (-41), 3) := by decide +kernel
theorem dX11_statue_96 : decode cX11_statue 96 = .ok (.bipush (-9), 2) := by decide +kernel
theorem dX11_statue_98 : decode cX11_statue 98 = .ok (.ireturn, 1) := by decide +kernel
theorem dX11_nights_0 : decode cX11_nights 0 = .ok (.aload_n 0, 1) := by decide +kernel
theorem dX11_nights_1 : decode cX11_nights 1 = .ok (.iload_n 1, 1) := by decide +kernel
theorem dX11_nights_2 : decode cX11_nights 2 = .ok (.iload_n 2, 1) := by decide +kernel
theorem dX11_nights_3 : decode cX11_nights 3 = .ok (.iconst 1, 1) := by decide +kernel
theorem dX11_nights_4 : decode cX11_nights 4 = .ok (.bipush 9, 2) := by decide +kernel
theorem dX11_nights_6 : decode cX11_nights 6 = .ok (.invokestatic 122, 3) := by decide +kernel
theorem dX11_nights_9 : decode cX11_nights 9 = .ok (.ifCond .eq 14, 3) := by decide +kernel
theorem dX11_nights_12 : decode cX11_nights 12 = .ok (.iload_n 3, 1) := by decide +kernel
theorem dX11_nights_13 : decode cX11_nights 13 = .ok (.invokestatic 146, 3) := by decide +kernel
theorem dX11_nights_16 : decode cX11_nights 16 = .ok (.ifCond .eq 7, 3) := by decide +kernel
theorem dX11_nights_19 : decode cX11_nights 19 = .ok (.iconst 1, 1) := by decide +kernel
theorem dX11_nights_20 : decode cX11_nights 20 = .ok (.goto 4, 3) := by decide +kernel
theorem dX11_nights_23 : decode cX11_nights 23 = .ok (.iconst 0, 1) := by decide +kernel
theorem dX11_nights_24 : decode cX11_nights 24 = .ok (.invokevirtual 175, 3) := by decide +kernel
theorem dX11_nights_27 : decode cX11_nights 27 = .ok (.istore 4, 2) := by decide +kernel
theorem dX11_nights_29 : decode cX11_nights 29 = .ok (.iload 4, 2) := by decide +kernel
theorem dX11_nights_31 : decode cX11_nights 31 = .ok (.ifCond .eq 8, 3) := by decide +kernel
theorem dX11_nights_34 : decode cX11_nights 34 = .ok (.iload 4, 2) := by decide +kernel
theorem dX11_nights_36 : decode cX11_nights 36 = .ok (.goto 13, 3) := by decide +kernel
theorem dX11_nights_39 : decode cX11_nights 39 = .ok (.aload_n 0, 1) := by decide +kernel
theorem dX11_nights_40 : decode cX11_nights 40 = .ok (.getfield 51, 3) := by decide +kernel
theorem dX11_nights_43 : decode cX11_nights 43 = .ok (.iload_n 1, 1) := by decide +kernel
theorem dX11_nights_44 : decode cX11_nights 44 = .ok (.iload_n 2, 1) := by decide +kernel
theorem dX11_nights_45 : decode cX11_nights 45 = .ok (.iload_n 3, 1) := by decide +kernel
theorem dX11_nights_46 : decode cX11_nights 46 = .ok (.invokevirtual 221, 3) := by decide +kernel
theorem dX11_nights_49 : decode cX11_nights 49 = .ok (.ireturn, 1) := by decide +kernel
theorem dX11_reading_0 : decode cX11_reading 0 = .ok (.aload_n 0, 1) := by decide +kernel
theorem dX11_reading_1 : decode cX11_reading 1 = .ok (.getfield 21, 3) := by decide +kernel
theorem dX11_reading_4 : decode cX11_reading 4 = .ok (.iload_n 1, 1) := by decide +kernel
theorem dX11_reading_5 : decode cX11_reading 5 = .ok (.invokevirtual 106, 3) := by decide +kernel
theorem dX11_reading_8 : decode cX11_reading 8 = .ok (.ifCond .eq 10, 3) := by decide +kernel
theorem dX11_reading_11 : decode cX11_reading 11 = .ok (.iload_n 2, 1) := by decide +kernel
theorem dX11_reading_12 : decode cX11_reading 12 = .ok (.invokestatic 119, 3) := by decide +kernel
theorem dX11_reading_15 : decode cX11_reading 15 = .ok (.ifCond .ne 5, 3) := by decide +kernel
theorem dX11_reading_18 : decode cX11_reading 18 = .ok (.iconst (-1), 1) := by decide +kernel
theorem dX11_reading_19 : decode cX11_reading 19 = .ok (.ireturn, 1) := by decide +kernel
theorem dX11_reading_20 : decode cX11_reading 20 = .ok (.iload_n 3, 1) := by decide +kernel
theorem dX11_reading_21 : decode cX11_reading 21 = .ok (.invokestatic 146, 3) := by decide +kernel
theorem dX11_reading_24 : decode cX11_reading 24 = .ok (.ifCond .ne 6, 3) := by decide +kernel
theorem dX11_reading_27 : decode cX11_reading 27 = .ok (.bipush (-2), 2) := by decide +kernel
theorem dX11_reading_29 : decode cX11_reading 29 = .ok (.ireturn, 1) := by decide +kernel
theorem dX11_reading_30 : decode cX11_reading 30 = .ok (.aload_n 0, 1) := by decide +kernel
theorem dX11_reading_31 : decode cX11_reading 31 = .ok (.getfield 58, 3) := by decide +kernel
theorem dX11_reading_34 : decode cX11_reading 34 = .ok (.invokevirtual 224, 3) := by decide +kernel
theorem dX11_reading_37 : decode cX11_reading 37 = .ok (.ifCond .eq 8, 3) := by decide +kernel
theorem dX11_reading_40 : decode cX11_reading 40 = .ok (.bipush (-4), 2) := by decide +kernel
theorem dX11_reading_42 : decode cX11_reading 42 = .ok (.goto 13, 3) := by decide +kernel
theorem dX11_reading_45 : decode cX11_reading 45 = .ok (.aload_n 0, 1) := by decide +kernel
theorem dX11_reading_46 : decode cX11_reading 46 = .ok (.getfield 58, 3) := by decide +kernel
theorem dX11_reading_49 : decode cX11_reading 49 = .ok (.iload_n 1, 1) := by decide +kernel
theorem dX11_reading_50 : decode cX11_reading 50 = .ok (.iload_n 2, 1) := by decide +kernel
theorem dX11_reading_51 : decode cX11_reading 51 = .ok (.iload_n 3, 1) := by decide +kernel
theorem dX11_reading_52 : decode cX11_reading 52 = .ok (.invokevirtual 227, 3) := by decide +kernel
theorem dX11_reading_55 : decode cX11_reading 55 = .ok (.ireturn, 1) := by decide +kernel
theorem dX11_back_0 : decode cX11_back 0 = .ok (.iload_n 1, 1) := by decide +kernel
theorem dX11_back_1 : decode cX11_back 1 = .ok (.iconst 0, 1) := by decide +kernel
theorem dX11_back_2 : decode cX11_back 2 = .ok (.aload_n 0, 1) := by decide +kernel
theorem dX11_back_3 : decode cX11_back 3 = .ok (.getfield 58, 3) := by decide +kernel
theorem dX11_back_6 : decode cX11_back 6 = .ok (.getfield 230, 3) := by decide +kernel
theorem dX11_back_9 : decode cX11_back 9 = .ok (.invokestatic 122, 3) := by decide +kernel
theorem dX11_back_12 : decode cX11_back 12 = .ok (.ifCond .ne 6, 3) := by decide +kernel
theorem dX11_back_15 : decode cX11_back 15 = .ok (.bipush (-2), 2) := by decide +kernel
theorem dX11_back_17 : decode cX11_back 17 = .ok (.ireturn, 1) := by decide +kernel
theorem dX11_back_18 : decode cX11_back 18 = .ok (.aload_n 0, 1) := by decide +kernel
theorem dX11_back_19 : decode cX11_back 19 = .ok (.getfield 58, 3) := by decide +kernel
theorem dX11_back_22 : decode cX11_back 22 = .ok (.iload_n 1, 1) := by decide +kernel
theorem dX11_back_23 : decode cX11_back 23 = .ok (.invokevirtual 233, 3) := by decide +kernel
theorem dX11_back_26 : decode cX11_back 26 = .ok (.ireturn, 1) := by decide +kernel
theorem dX11_kinds_0 : decode cX11_kinds 0 = .ok (.aload_n 0, 1) := by decide +kernel
theorem dX11_kinds_1 : decode cX11_kinds 1 = .ok (.getfield 21, 3) := by decide +kernel
theorem dX11_kinds_4 : decode cX11_kinds 4 = .ok (.iload_n 1, 1) := by decide +kernel
theorem dX11_kinds_5 : decode cX11_kinds 5 = .ok (.invokevirtual 106, 3) := by decide +kernel
theorem dX11_kinds_8 : decode cX11_kinds 8 = .ok (.ifCond .eq 14, 3) := by decide +kernel
theorem dX11_kinds_11 : decode cX11_kinds 11 = .ok (.aload_n 0, 1) := by decide +kernel
theorem dX11_kinds_12 : decode cX11_kinds 12 = .ok (.getfield 58, 3) := by decide +kernel
theorem dX11_kinds_15 : decode cX11_kinds 15 = .ok (.iload_n 1, 1) := by decide +kernel
theorem dX11_kinds_16 : decode cX11_kinds 16 = .ok (.invokevirtual 236, 3) := by decide +kernel
theorem dX11_kinds_19 : decode cX11_kinds 19 = .ok (.goto 4, 3) := by decide +kernel
theorem dX11_kinds_22 : decode cX11_kinds 22 = .ok (.iconst (-1), 1) := by decide +kernel
theorem dX11_kinds_23 : decode cX11_kinds 23 = .ok (.ireturn, 1) := by decide +kernel
theorem dX11_sheet_0 : decode cX11_sheet 0 = .ok (.aload_n 0, 1) := by decide +kernel
theorem dX11_sheet_1 : decode cX11_sheet 1 = .ok (.iconst 0, 1) := by decide +kernel
theorem dX11_sheet_2 : decode cX11_sheet 2 = .ok (.putfield 69, 3) := by decide +kernel
theorem dX11_sheet_5 : decode cX11_sheet 5 = .ok (.iload_n 1, 1) := by decide +kernel
theorem dX11_sheet_6 : decode cX11_sheet 6 = .ok (.invokestatic 73, 3) := by decide +kernel
theorem dX11_sheet_9 : decode cX11_sheet 9 = .ok (.ifCond .ne 5, 3) := by decide +kernel
theorem dX11_sheet_12 : decode cX11_sheet 12 = .ok (.iconst (-1), 1) := by decide +kernel
theorem dX11_sheet_13 : decode cX11_sheet 13 = .ok (.ireturn, 1) := by decide +kernel
theorem dX11_sheet_14 : decode cX11_sheet 14 = .ok (.iload_n 2, 1) := by decide +kernel
theorem dX11_sheet_15 : decode cX11_sheet 15 = .ok (.invokestatic 77, 3) := by decide +kernel
theorem dX11_sheet_18 : decode cX11_sheet 18 = .ok (.ifCond .eq 9, 3) := by decide +kernel
theorem dX11_sheet_21 : decode cX11_sheet 21 = .ok (.iload_n 3, 1) := by decide +kernel
theorem dX11_sheet_22 : decode cX11_sheet 22 = .ok (.bipush 80, 2) := by decide +kernel
theorem dX11_sheet_24 : decode cX11_sheet 24 = .ok (.if_icmp .le 6, 3) := by decide +kernel
theorem dX11_sheet_27 : decode cX11_sheet 27 = .ok (.bipush (-2), 2) := by decide +kernel
theorem dX11_sheet_29 : decode cX11_sheet 29 = .ok (.ireturn, 1) := by decide +kernel
theorem dX11_sheet_30 : decode cX11_sheet 30 = .ok (.iload_n 3, 1) := by decide +kernel
theorem dX11_sheet_31 : decode cX11_sheet 31 = .ok (.ifCond .ge 9, 3) := by decide +kernel
theorem dX11_sheet_34 : decode cX11_sheet 34 = .ok (.aload_n 0, 1) := by decide +kernel
theorem dX11_sheet_35 : decode cX11_sheet 35 = .ok (.iconst 4, 1) := by decide +kernel
theorem dX11_sheet_36 : decode cX11_sheet 36 = .ok (.invokevirtual 84, 3) := by decide +kernel
theorem dX11_sheet_39 : decode cX11_sheet 39 = .ok (.ireturn, 1) := by decide +kernel
theorem dX11_sheet_40 : decode cX11_sheet 40 = .ok (.aload_n 0, 1) := by decide +kernel
theorem dX11_sheet_41 : decode cX11_sheet 41 = .ok (.getfield 65, 3) := by decide +kernel
theorem dX11_sheet_44 : decode cX11_sheet 44 = .ok (.iload_n 1, 1) := by decide +kernel
theorem dX11_sheet_45 : decode cX11_sheet 45 = .ok (.aaload, 1) := by decide +kernel
theorem dX11_sheet_46 : decode cX11_sheet 46 = .ok (.iload_n 2, 1) := by decide +kernel
theorem dX11_sheet_47 : decode cX11_sheet 47 = .ok (.iload_n 3, 1) := by decide +kernel
theorem dX11_sheet_48 : decode cX11_sheet 48 = .ok (.invokevirtual 239, 3) := by decide +kernel
theorem dX11_sheet_51 : decode cX11_sheet 51 = .ok (.iconst 1, 1) := by decide +kernel
theorem dX11_sheet_52 : decode cX11_sheet 52 = .ok (.ireturn, 1) := by decide +kernel
theorem dX11_lose_0 : decode cX11_lose 0 = .ok (.iload_n 1, 1) := by decide +kernel
theorem dX11_lose_1 : decode cX11_lose 1 = .ok (.invokestatic 73, 3) := by decide +kernel
theorem dX11_lose_4 : decode cX11_lose 4 = .ok (.ifCond .ne 5, 3) := by decide +kernel
theorem dX11_lose_7 : decode cX11_lose 7 = .ok (.iconst (-1), 1) := by decide +kernel
theorem dX11_lose_8 : decode cX11_lose 8 = .ok (.ireturn, 1) := by decide +kernel
theorem dX11_lose_9 : decode cX11_lose 9 = .ok (.aload_n 0, 1) := by decide +kernel
theorem dX11_lose_10 : decode cX11_lose 10 = .ok (.getfield 65, 3) := by decide +kernel
theorem dX11_lose_13 : decode cX11_lose 13 = .ok (.iload_n 1, 1) := by decide +kernel
theorem dX11_lose_14 : decode cX11_lose 14 = .ok (.aaload, 1) := by decide +kernel
theorem dX11_lose_15 : decode cX11_lose 15 = .ok (.invokevirtual 242, 3) := by decide +kernel
theorem dX11_lose_18 : decode cX11_lose 18 = .ok (.ifCond .eq 7, 3) := by decide +kernel
theorem dX11_lose_21 : decode cX11_lose 21 = .ok (.iconst 1, 1) := by decide +kernel
theorem dX11_lose_22 : decode cX11_lose 22 = .ok (.goto 4, 3) := by decide +kernel
theorem dX11_lose_25 : decode cX11_lose 25 = .ok (.iconst 0, 1) := by decide +kernel
theorem dX11_lose_26 : decode cX11_lose 26 = .ok (.ireturn, 1) := by decide +kernel
theorem dX11_put_0 : decode cX11_put 0 = .ok (.aload_n 0, 1) := by decide +kernel
theorem dX11_put_1 : decode cX11_put 1 = .ok (.iconst 0, 1) := by decide +kernel
theorem dX11_put_2 : decode cX11_put 2 = .ok (.putfield 69, 3) := by decide +kernel
theorem dX11_put_5 : decode cX11_put 5 = .ok (.iload_n 1, 1) := by decide +kernel
theorem dX11_put_6 : decode cX11_put 6 = .ok (.invokestatic 73, 3) := by decide +kernel
theorem dX11_put_9 : decode cX11_put 9 = .ok (.ifCond .ne 5, 3) := by decide +kernel
theorem dX11_put_12 : decode cX11_put 12 = .ok (.iconst (-1), 1) := by decide +kernel
theorem dX11_put_13 : decode cX11_put 13 = .ok (.ireturn, 1) := by decide +kernel
theorem dX11_put_14 : decode cX11_put 14 = .ok (.aload_n 0, 1) := by decide +kernel
theorem dX11_put_15 : decode cX11_put 15 = .ok (.getfield 65, 3) := by decide +kernel
theorem dX11_put_18 : decode cX11_put 18 = .ok (.iload_n 1, 1) := by decide +kernel
theorem dX11_put_19 : decode cX11_put 19 = .ok (.aaload, 1) := by decide +kernel
theorem dX11_put_20 : decode cX11_put 20 = .ok (.astore 4, 2) := by decide +kernel
theorem dX11_put_22 : decode cX11_put 22 = .ok (.aload 4, 2) := by decide +kernel
theorem dX11_put_24 : decode cX11_put 24 = .ok (.invokevirtual 245, 3) := by decide +kernel
theorem dX11_put_27 : decode cX11_put 27 = .ok (.ifCond .eq 9, 3) := by decide +kernel
theorem dX11_put_30 : decode cX11_put 30 = .ok (.aload_n 0, 1) := by decide +kernel
theorem dX11_put_31 : decode cX11_put 31 = .ok (.iconst 1, 1) := by decide +kernel
theorem dX11_put_32 : decode cX11_put 32 = .ok (.invokevirtual 84, 3) := by decide +kernel
theorem dX11_put_35 : decode cX11_put 35 = .ok (.ireturn, 1) := by decide +kernel
theorem dX11_put_36 : decode cX11_put 36 = .ok (.aload 4, 2) := by decide +kernel
theorem dX11_put_38 : decode cX11_put 38 = .ok (.iload_n 2, 1) := by decide +kernel
theorem dX11_put_39 : decode cX11_put 39 = .ok (.invokevirtual 248, 3) := by decide +kernel
theorem dX11_put_42 : decode cX11_put 42 = .ok (.ifCond .ne 9, 3) := by decide +kernel
theorem dX11_put_45 : decode cX11_put 45 = .ok (.aload_n 0, 1) := by decide +kernel
theorem dX11_put_46 : decode cX11_put 46 = .ok (.iconst 3, 1) := by decide +kernel
theorem dX11_put_47 : decode cX11_put 47 = .ok (.invokevirtual 84, 3) := by decide +kernel
theorem dX11_put_50 : decode cX11_put 50 = .ok (.ireturn, 1) := by decide +kernel
theorem dX11_put_51 : decode cX11_put 51 = .ok (.aload 4, 2) := by decide +kernel
theorem dX11_put_53 : decode cX11_put 53 = .ok (.iload_n 2, 1) := by decide +kernel
theorem dX11_put_54 : decode cX11_put 54 = .ok (.iload_n 3, 1) := by decide +kernel
theorem dX11_put_55 : decode cX11_put 55 = .ok (.invokevirtual 251, 3) := by decide +kernel
theorem dX11_put_58 : decode cX11_put 58 = .ok (.iconst 1, 1) := by decide +kernel
theorem dX11_put_59 : decode cX11_put 59 = .ok (.ireturn, 1) := by decide +kernel
theorem dX11_cell_0 : decode cX11_cell 0 = .ok (.aload_n 0, 1) := by decide +kernel
theorem dX11_cell_1 : decode cX11_cell 1 = .ok (.iconst 0, 1) := by decide +kernel
theorem dX11_cell_2 : decode cX11_cell 2 = .ok (.putfield 69, 3) := by decide +kernel
theorem dX11_cell_5 : decode cX11_cell 5 = .ok (.iload_n 1, 1) := by decide +kernel
theorem dX11_cell_6 : decode cX11_cell 6 = .ok (.invokestatic 73, 3) := by decide +kernel
theorem dX11_cell_9 : decode cX11_cell 9 = .ok (.ifCond .eq 10, 3) := by decide +kernel
theorem dX11_cell_12 : decode cX11_cell 12 = .ok (.iload_n 3, 1) := by decide +kernel
theorem dX11_cell_13 : decode cX11_cell 13 = .ok (.invokestatic 77, 3) := by decide +kernel
theorem dX11_cell_16 : decode cX11_cell 16 = .ok (.ifCond .ne 7, 3) := by decide +kernel
theorem dX11_cell_19 : decode cX11_cell 19 = .ok (.ldc2_w 254, 3) := by decide +kernel
theorem dX11_cell_22 : decode cX11_cell 22 = .ok (.lreturn, 1) := by decide +kernel
theorem dX11_cell_23 : decode cX11_cell 23 = .ok (.aload_n 0, 1) := by decide +kernel
theorem dX11_cell_24 : decode cX11_cell 24 = .ok (.getfield 65, 3) := by decide +kernel
theorem dX11_cell_27 : decode cX11_cell 27 = .ok (.iload_n 1, 1) := by decide +kernel
theorem dX11_cell_28 : decode cX11_cell 28 = .ok (.aaload, 1) := by decide +kernel
theorem dX11_cell_29 : decode cX11_cell 29 = .ok (.astore 4, 2) := by decide +kernel
theorem dX11_cell_31 : decode cX11_cell 31 = .ok (.aload 4, 2) := by decide +kernel
theorem dX11_cell_33 : decode cX11_cell 33 = .ok (.iload_n 3, 1) := by decide +kernel
theorem dX11_cell_34 : decode cX11_cell 34 = .ok (.invokevirtual 80, 3) := by decide +kernel
theorem dX11_cell_37 : decode cX11_cell 37 = .ok (.istore 5, 2) := by decide +kernel
theorem dX11_cell_39 : decode cX11_cell 39 = .ok (.iload 5, 2) := by decide +kernel
theorem dX11_cell_41 : decode cX11_cell 41 = .ok (.ifCond .ne 15, 3) := by decide +kernel
theorem dX11_cell_44 : decode cX11_cell 44 = .ok (.aload 4, 2) := by decide +kernel
theorem dX11_cell_46 : decode cX11_cell 46 = .ok (.iload_n 2, 1) := by decide +kernel
theorem dX11_cell_47 : decode cX11_cell 47 = .ok (.invokevirtual 248, 3) := by decide +kernel
theorem dX11_cell_50 : decode cX11_cell 50 = .ok (.ifCond .ne 6, 3) := by decide +kernel
theorem dX11_cell_53 : decode cX11_cell 53 = .ok (.iconst 3, 1) := by decide +kernel
theorem dX11_cell_54 : decode cX11_cell 54 = .ok (.istore 5, 2) := by decide +kernel
theorem dX11_cell_56 : decode cX11_cell 56 = .ok (.aload_n 0, 1) := by decide +kernel
theorem dX11_cell_57 : decode cX11_cell 57 = .ok (.iload 5, 2) := by decide +kernel
theorem dX11_cell_59 : decode cX11_cell 59 = .ok (.putfield 69, 3) := by decide +kernel
theorem dX11_cell_62 : decode cX11_cell 62 = .ok (.iload 5, 2) := by decide +kernel
theorem dX11_cell_64 : decode cX11_cell 64 = .ok (.ifCond .eq 9, 3) := by decide +kernel
theorem dX11_cell_67 : decode cX11_cell 67 = .ok (.ldc2_w 254, 3) := by decide +kernel
theorem dX11_cell_70 : decode cX11_cell 70 = .ok (.goto 11, 3) := by decide +kernel
theorem dX11_cell_73 : decode cX11_cell 73 = .ok (.aload 4, 2) := by decide +kernel
theorem dX11_cell_75 : decode cX11_cell 75 = .ok (.getfield 256, 3) := by decide +kernel
theorem dX11_cell_78 : decode cX11_cell 78 = .ok (.iload_n 2, 1) := by decide +kernel
theorem dX11_cell_79 : decode cX11_cell 79 = .ok (.iaload, 1) := by decide +kernel
theorem dX11_cell_80 : decode cX11_cell 80 = .ok (.i2l, 1) := by decide +kernel
theorem dX11_cell_81 : decode cX11_cell 81 = .ok (.lreturn, 1) := by decide +kernel
theorem dX11_copy_0 : decode cX11_copy 0 = .ok (.aload_n 0, 1) := by decide +kernel
theorem dX11_copy_1 : decode cX11_copy 1 = .ok (.iconst 0, 1) := by decide +kernel
theorem dX11_copy_2 : decode cX11_copy 2 = .ok (.putfield 69, 3) := by decide +kernel
theorem dX11_copy_5 : decode cX11_copy 5 = .ok (.iload_n 1, 1) := by decide +kernel
theorem dX11_copy_6 : decode cX11_copy 6 = .ok (.invokestatic 73, 3) := by decide +kernel
theorem dX11_copy_9 : decode cX11_copy 9 = .ok (.ifCond .eq 10, 3) := by decide +kernel
theorem dX11_copy_12 : decode cX11_copy 12 = .ok (.iload_n 3, 1) := by decide +kernel
theorem dX11_copy_13 : decode cX11_copy 13 = .ok (.invokestatic 73, 3) := by decide +kernel
theorem dX11_copy_16 : decode cX11_copy 16 = .ok (.ifCond .ne 5, 3) := by decide +kernel
theorem dX11_copy_19 : decode cX11_copy 19 = .ok (.iconst (-1), 1) := by decide +kernel
theorem dX11_copy_20 : decode cX11_copy 20 = .ok (.ireturn, 1) := by decide +kernel
theorem dX11_copy_21 : decode cX11_copy 21 = .ok (.aload_n 0, 1) := by decide +kernel
theorem dX11_copy_22 : decode cX11_copy 22 = .ok (.getfield 65, 3) := by decide +kernel
theorem dX11_copy_25 : decode cX11_copy 25 = .ok (.iload_n 1, 1) := by decide +kernel
theorem dX11_copy_26 : decode cX11_copy 26 = .ok (.aaload, 1) := by decide +kernel
theorem dX11_copy_27 : decode cX11_copy 27 = .ok (.astore 6, 2) := by decide +kernel
theorem dX11_copy_29 : decode cX11_copy 29 = .ok (.aload_n 0, 1) := by decide +kernel
theorem dX11_copy_30 : decode cX11_copy 30 = .ok (.getfield 65, 3) := by decide +kernel
theorem dX11_copy_33 : decode cX11_copy 33 = .ok (.iload_n 3, 1) := by decide +kernel
theorem dX11_copy_34 : decode cX11_copy 34 = .ok (.aaload, 1) := by decide +kernel
theorem dX11_copy_35 : decode cX11_copy 35 = .ok (.astore 7, 2) := by decide +kernel
theorem dX11_copy_37 : decode cX11_copy 37 = .ok (.aload 6, 2) := by decide +kernel
theorem dX11_copy_39 : decode cX11_copy 39 = .ok (.invokevirtual 245, 3) := by decide +kernel
theorem dX11_copy_42 : decode cX11_copy 42 = .ok (.ifCond .ne 11, 3) := by decide +kernel
theorem dX11_copy_45 : decode cX11_copy 45 = .ok (.aload 7, 2) := by decide +kernel
theorem dX11_copy_47 : decode cX11_copy 47 = .ok (.invokevirtual 245, 3) := by decide +kernel
theorem dX11_copy_50 : decode cX11_copy 50 = .ok (.ifCond .eq 9, 3) := by decide +kernel
theorem dX11_copy_53 : decode cX11_copy 53 = .ok (.aload_n 0, 1) := by decide +kernel
theorem dX11_copy_54 : decode cX11_copy 54 = .ok (.iconst 1, 1) := by decide +kernel
theorem dX11_copy_55 : decode cX11_copy 55 = .ok (.invokevirtual 84, 3) := by decide +kernel
theorem dX11_copy_58 : decode cX11_copy 58 = .ok (.ireturn, 1) := by decide +kernel
theorem dX11_copy_59 : decode cX11_copy 59 = .ok (.aload 6, 2) := by decide +kernel
theorem dX11_copy_61 : decode cX11_copy 61 = .ok (.getfield 259, 3) := by decide +kernel
theorem dX11_copy_64 : decode cX11_copy 64 = .ok (.aload 7, 2) := by decide +kernel
theorem dX11_copy_66 : decode cX11_copy 66 = .ok (.getfield 259, 3) := by decide +kernel
theorem dX11_copy_69 : decode cX11_copy 69 = .ok (.if_icmp .eq 9, 3) := by decide +kernel
theorem dX11_copy_72 : decode cX11_copy 72 = .ok (.aload_n 0, 1) := by decide +kernel
theorem dX11_copy_73 : decode cX11_copy 73 = .ok (.iconst 2, 1) := by decide +kernel
theorem dX11_copy_74 : decode cX11_copy 74 = .ok (.invokevirtual 84, 3) := by decide +kernel
theorem dX11_copy_77 : decode cX11_copy 77 = .ok (.ireturn, 1) := by decide +kernel
theorem dX11_copy_78 : decode cX11_copy 78 = .ok (.iload 5, 2) := by decide +kernel
theorem dX11_copy_80 : decode cX11_copy 80 = .ok (.ifCond .lt 26, 3) := by decide +kernel
theorem dX11_copy_83 : decode cX11_copy 83 = .ok (.aload 6, 2) := by decide +kernel
theorem dX11_copy_85 : decode cX11_copy 85 = .ok (.iload_n 2, 1) := by decide +kernel
theorem dX11_copy_86 : decode cX11_copy 86 = .ok (.iload 5, 2) := by decide +kernel
theorem dX11_copy_88 : decode cX11_copy 88 = .ok (.invokevirtual 87, 3) := by decide +kernel
theorem dX11_copy_91 : decode cX11_copy 91 = .ok (.ifCond .eq 15, 3) := by decide +kernel
theorem dX11_copy_94 : decode cX11_copy 94 = .ok (.aload 7, 2) := by decide +kernel
theorem dX11_copy_96 : decode cX11_copy 96 = .ok (.iload 4, 2) := by decide +kernel
theorem dX11_copy_98 : decode cX11_copy 98 = .ok (.iload 5, 2) := by decide +kernel
theorem dX11_copy_100 : decode cX11_copy 100 = .ok (.invokevirtual 87, 3) := by decide +kernel
theorem dX11_copy_103 : decode cX11_copy 103 = .ok (.ifCond .ne 9, 3) := by decide +kernel
theorem dX11_copy_106 : decode cX11_copy 106 = .ok (.aload_n 0, 1) := by decide +kernel
theorem dX11_copy_107 : decode cX11_copy 107 = .ok (.iconst 3, 1) := by decide +kernel
theorem dX11_copy_108 : decode cX11_copy 108 = .ok (.invokevirtual 84, 3) := by decide +kernel
theorem dX11_copy_111 : decode cX11_copy 111 = .ok (.ireturn, 1) := by decide +kernel
theorem dX11_copy_112 : decode cX11_copy 112 = .ok (.aload 6, 2) := by decide +kernel
theorem dX11_copy_114 : decode cX11_copy 114 = .ok (.getfield 256, 3) := by decide +kernel
theorem dX11_copy_117 : decode cX11_copy 117 = .ok (.iload_n 2, 1) := by decide +kernel
theorem dX11_copy_118 : decode cX11_copy 118 = .ok (.aload 7, 2) := by decide +kernel
theorem dX11_copy_120 : decode cX11_copy 120 = .ok (.getfield 256, 3) := by decide +kernel
theorem dX11_copy_123 : decode cX11_copy 123 = .ok (.iload 4, 2) := by decide +kernel
theorem dX11_copy_125 : decode cX11_copy 125 = .ok (.iload 5, 2) := by decide +kernel
theorem dX11_copy_127 : decode cX11_copy 127 = .ok (.invokestatic 262, 3) := by decide +kernel
theorem dX11_copy_130 : decode cX11_copy 130 = .ok (.iload 5, 2) := by decide +kernel
theorem dX11_copy_132 : decode cX11_copy 132 = .ok (.ireturn, 1) := by decide +kernel
theorem dX11_tell_0 : decode cX11_tell 0 = .ok (.aload_n 0, 1) := by decide +kernel
theorem dX11_tell_1 : decode cX11_tell 1 = .ok (.getfield 21, 3) := by decide +kernel
theorem dX11_tell_4 : decode cX11_tell 4 = .ok (.iload_n 1, 1) := by decide +kernel
theorem dX11_tell_5 : decode cX11_tell 5 = .ok (.invokevirtual 106, 3) := by decide +kernel
theorem dX11_tell_8 : decode cX11_tell 8 = .ok (.ifCond .eq 30, 3) := by decide +kernel
theorem dX11_tell_11 : decode cX11_tell 11 = .ok (.aload_n 0, 1) := by decide +kernel
theorem dX11_tell_12 : decode cX11_tell 12 = .ok (.getfield 21, 3) := by decide +kernel
theorem dX11_tell_15 : decode cX11_tell 15 = .ok (.iload_n 1, 1) := by decide +kernel
theorem dX11_tell_16 : decode cX11_tell 16 = .ok (.invokevirtual 268, 3) := by decide +kernel
theorem dX11_tell_19 : decode cX11_tell 19 = .ok (.aload_n 0, 1) := by decide +kernel
theorem dX11_tell_20 : decode cX11_tell 20 = .ok (.getfield 21, 3) := by decide +kernel
theorem dX11_tell_23 : decode cX11_tell 23 = .ok (.getfield 113, 3) := by decide +kernel
theorem dX11_tell_26 : decode cX11_tell 26 = .ok (.iload_n 1, 1) := by decide +kernel
theorem dX11_tell_27 : decode cX11_tell 27 = .ok (.iaload, 1) := by decide +kernel
theorem dX11_tell_28 : decode cX11_tell 28 = .ok (.aload_n 0, 1) := by decide +kernel
theorem dX11_tell_29 : decode cX11_tell 29 = .ok (.getfield 12, 3) := by decide +kernel
theorem dX11_tell_32 : decode cX11_tell 32 = .ok (.invokevirtual 272, 3) := by decide +kernel
theorem dX11_tell_35 : decode cX11_tell 35 = .ok (.goto 4, 3) := by decide +kernel
theorem dX11_tell_38 : decode cX11_tell 38 = .ok (.iconst (-1), 1) := by decide +kernel
theorem dX11_tell_39 : decode cX11_tell 39 = .ok (.ireturn, 1) := by decide +kernel
theorem dX11_tread_0 : decode cX11_tread 0 = .ok (.aload_n 0, 1) := by decide +kernel
theorem dX11_tread_1 : decode cX11_tread 1 = .ok (.getfield 21, 3) := by decide +kernel
theorem dX11_tread_4 : decode cX11_tread 4 = .ok (.iload_n 1, 1) := by decide +kernel
theorem dX11_tread_5 : decode cX11_tread 5 = .ok (.invokevirtual 106, 3) := by decide +kernel
theorem dX11_tread_8 : decode cX11_tread 8 = .ok (.ifCond .eq 22, 3) := by decide +kernel
theorem dX11_tread_11 : decode cX11_tread 11 = .ok (.aload_n 0, 1) := by decide +kernel
theorem dX11_tread_12 : decode cX11_tread 12 = .ok (.getfield 21, 3) := by decide +kernel
theorem dX11_tread_15 : decode cX11_tread 15 = .ok (.iload_n 1, 1) := by decide +kernel
theorem dX11_tread_16 : decode cX11_tread 16 = .ok (.invokevirtual 268, 3) := by decide +kernel
theorem dX11_tread_19 : decode cX11_tread 19 = .ok (.iload_n 1, 1) := by decide +kernel
theorem dX11_tread_20 : decode cX11_tread 20 = .ok (.aload_n 0, 1) := by decide +kernel
theorem dX11_tread_21 : decode cX11_tread 21 = .ok (.getfield 12, 3) := by decide +kernel
theorem dX11_tread_24 : decode cX11_tread 24 = .ok (.invokevirtual 278, 3) := by decide +kernel
theorem dX11_tread_27 : decode cX11_tread 27 = .ok (.goto 4, 3) := by decide +kernel
theorem dX11_tread_30 : decode cX11_tread 30 = .ok (.iconst (-1), 1) := by decide +kernel
theorem dX11_tread_31 : decode cX11_tread 31 = .ok (.ireturn, 1) := by decide +kernel
theorem dX11_as_0 : decode cX11_as 0 = .ok (.aload_n 0, 1) := by decide +kernel
theorem dX11_as_1 : decode cX11_as 1 = .ok (.iconst 0, 1) := by decide +kernel
theorem dX11_as_2 : decode cX11_as 2 = .ok (.putfield 69, 3) := by decide +kernel
theorem dX11_as_5 : decode cX11_as 5 = .ok (.aload_n 0, 1) := by decide +kernel
theorem dX11_as_6 : decode cX11_as 6 = .ok (.getfield 21, 3) := by decide +kernel
theorem dX11_as_9 : decode cX11_as 9 = .ok (.iload_n 1, 1) := by decide +kernel
theorem dX11_as_10 : decode cX11_as 10 = .ok (.invokevirtual 106, 3) := by decide +kernel
theorem dX11_as_13 : decode cX11_as 13 = .ok (.ifCond .ne 5, 3) := by decide +kernel
theorem dX11_as_16 : decode cX11_as 16 = .ok (.iconst (-1), 1) := by decide +kernel
theorem dX11_as_17 : decode cX11_as 17 = .ok (.ireturn, 1) := by decide +kernel
theorem dX11_as_18 : decode cX11_as 18 = .ok (.iload_n 2, 1) := by decide +kernel
theorem dX11_as_19 : decode cX11_as 19 = .ok (.iconst 0, 1) := by decide +kernel
theorem dX11_as_20 : decode cX11_as 20 = .ok (.iconst 2, 1) := by decide +kernel
theorem dX11_as_21 : decode cX11_as 21 = .ok (.invokestatic 122, 3) := by decide +kernel
theorem dX11_as_24 : decode cX11_as 24 = .ok (.ifCond .ne 6, 3) := by decide +kernel
theorem dX11_as_27 : decode cX11_as 27 = .ok (.bipush (-2), 2) := by decide +kernel
theorem dX11_as_29 : decode cX11_as 29 = .ok (.ireturn, 1) := by decide +kernel
theorem dX11_as_30 : decode cX11_as 30 = .ok (.aload_n 0, 1) := by decide +kernel
theorem dX11_as_31 : decode cX11_as 31 = .ok (.getfield 21, 3) := by decide +kernel
theorem dX11_as_34 : decode cX11_as 34 = .ok (.getfield 109, 3) := by decide +kernel
theorem dX11_as_37 : decode cX11_as 37 = .ok (.iload_n 1, 1) := by decide +kernel
theorem dX11_as_38 : decode cX11_as 38 = .ok (.iaload, 1) := by decide +kernel
theorem dX11_as_39 : decode cX11_as 39 = .ok (.iload_n 2, 1) := by decide +kernel
theorem dX11_as_40 : decode cX11_as 40 = .ok (.if_icmp .ge 11, 3) := by decide +kernel
theorem dX11_as_43 : decode cX11_as 43 = .ok (.aload_n 0, 1) := by decide +kernel
theorem dX11_as_44 : decode cX11_as 44 = .ok (.iconst 2, 1) := by decide +kernel
theorem dX11_as_45 : decode cX11_as 45 = .ok (.invokevirtual 84, 3) := by decide +kernel
theorem dX11_as_48 : decode cX11_as 48 = .ok (.goto 4, 3) := by decide +kernel
theorem dX11_as_51 : decode cX11_as 51 = .ok (.iconst 1, 1) := by decide +kernel
theorem dX11_as_52 : decode cX11_as 52 = .ok (.ireturn, 1) := by decide +kernel
theorem dX11_trace_0 : decode cX11_trace 0 = .ok (.aload_n 0, 1) := by decide +kernel
theorem dX11_trace_1 : decode cX11_trace 1 = .ok (.getfield 12, 3) := by decide +kernel
theorem dX11_trace_4 : decode cX11_trace 4 = .ok (.getfield 281, 3) := by decide +kernel
theorem dX11_trace_7 : decode cX11_trace 7 = .ok (.ireturn, 1) := by decide +kernel
theorem dX11_fault_0 : decode cX11_fault 0 = .ok (.aload_n 0, 1) := by decide +kernel
theorem dX11_fault_1 : decode cX11_fault 1 = .ok (.getfield 69, 3) := by decide +kernel
theorem dX11_fault_4 : decode cX11_fault 4 = .ok (.ireturn, 1) := by decide +kernel
theorem dX11_many_0 : decode cX11_many 0 = .ok (.iload_n 1, 1) := by decide +kernel
theorem dX11_many_1 : decode cX11_many 1 = .ok (.tableswitch 51 0 2 #[27, 35, 43], 27) := by decide +kernel
theorem dX11_many_28 : decode cX11_many 28 = .ok (.aload_n 0, 1) := by decide +kernel
theorem dX11_many_29 : decode cX11_many 29 = .ok (.getfield 21, 3) := by decide +kernel
theorem dX11_many_32 : decode cX11_many 32 = .ok (.invokevirtual 102, 3) := by decide +kernel
theorem dX11_many_35 : decode cX11_many 35 = .ok (.ireturn, 1) := by decide +kernel
theorem dX11_many_36 : decode cX11_many 36 = .ok (.aload_n 0, 1) := by decide +kernel
theorem dX11_many_37 : decode cX11_many 37 = .ok (.getfield 21, 3) := by decide +kernel
theorem dX11_many_40 : decode cX11_many 40 = .ok (.getfield 284, 3) := by decide +kernel
theorem dX11_many_43 : decode cX11_many 43 = .ok (.ireturn, 1) := by decide +kernel
theorem dX11_many_44 : decode cX11_many 44 = .ok (.aload_n 0, 1) := by decide +kernel
theorem dX11_many_45 : decode cX11_many 45 = .ok (.getfield 58, 3) := by decide +kernel
theorem dX11_many_48 : decode cX11_many 48 = .ok (.getfield 230, 3) := by decide +kernel
theorem dX11_many_51 : decode cX11_many 51 = .ok (.ireturn, 1) := by decide +kernel
theorem dX11_many_52 : decode cX11_many 52 = .ok (.bipush (-2), 2) := by decide +kernel
theorem dX11_many_54 : decode cX11_many 54 = .ok (.ireturn, 1) := by decide +kernel
theorem dX11_refusalOf_0 : decode cX11_refusalOf 0 = .ok (.iload_n 1, 1) := by decide +kernel
theorem dX11_refusalOf_1 : decode cX11_refusalOf 1 = .ok (.invokestatic 119, 3) := by decide +kernel
theorem dX11_refusalOf_4 : decode cX11_refusalOf 4 = .ok (.ifCond .ne 5, 3) := by decide +kernel
theorem dX11_refusalOf_7 : decode cX11_refusalOf 7 = .ok (.iconst (-1), 1) := by decide +kernel
theorem dX11_refusalOf_8 : decode cX11_refusalOf 8 = .ok (.ireturn, 1) := by decide +kernel
theorem dX11_refusalOf_9 : decode cX11_refusalOf 9 = .ok (.iload_n 2, 1) := by decide +kernel
theorem dX11_refusalOf_10 : decode cX11_refusalOf 10 = .ok (.ifCond .ne 6, 3) := by decide +kernel
theorem dX11_refusalOf_13 : decode cX11_refusalOf 13 = .ok (.bipush (-2), 2) := by decide +kernel
theorem dX11_refusalOf_15 : decode cX11_refusalOf 15 = .ok (.ireturn, 1) := by decide +kernel
theorem dX11_refusalOf_16 : decode cX11_refusalOf 16 = .ok (.aload_n 0, 1) := by decide +kernel
theorem dX11_refusalOf_17 : decode cX11_refusalOf 17 = .ok (.getfield 21, 3) := by decide +kernel
theorem dX11_refusalOf_20 : decode cX11_refusalOf 20 = .ok (.invokevirtual 126, 3) := by decide +kernel
theorem dX11_refusalOf_23 : decode cX11_refusalOf 23 = .ok (.ifCond .eq 8, 3) := by decide +kernel
theorem dX11_refusalOf_26 : decode cX11_refusalOf 26 = .ok (.bipush (-3), 2) := by decide +kernel
theorem dX11_refusalOf_28 : decode cX11_refusalOf 28 = .ok (.goto 4, 3) := by decide +kernel
theorem dX11_refusalOf_31 : decode cX11_refusalOf 31 = .ok (.iconst 0, 1) := by decide +kernel
theorem dX11_refusalOf_32 : decode cX11_refusalOf 32 = .ok (.ireturn, 1) := by decide +kernel
theorem dX11_failed_0 : decode cX11_failed 0 = .ok (.aload_n 0, 1) := by decide +kernel
theorem dX11_failed_1 : decode cX11_failed 1 = .ok (.iload_n 1, 1) := by decide +kernel
theorem dX11_failed_2 : decode cX11_failed 2 = .ok (.putfield 69, 3) := by decide +kernel
theorem dX11_failed_5 : decode cX11_failed 5 = .ok (.bipush (-10), 2) := by decide +kernel
theorem dX11_failed_7 : decode cX11_failed 7 = .ok (.iload_n 1, 1) := by decide +kernel
theorem dX11_failed_8 : decode cX11_failed 8 = .ok (.isub, 1) := by decide +kernel
theorem dX11_failed_9 : decode cX11_failed 9 = .ok (.ireturn, 1) := by decide +kernel
theorem dX11_isWithin_0 : decode cX11_isWithin 0 = .ok (.iload_n 0, 1) := by decide +kernel
theorem dX11_isWithin_1 : decode cX11_isWithin 1 = .ok (.iload_n 1, 1) := by decide +kernel
theorem dX11_isWithin_2 : decode cX11_isWithin 2 = .ok (.if_icmp .lt 12, 3) := by decide +kernel
theorem dX11_isWithin_5 : decode cX11_isWithin 5 = .ok (.iload_n 0, 1) := by decide +kernel
theorem dX11_isWithin_6 : decode cX11_isWithin 6 = .ok (.iload_n 2, 1) := by decide +kernel
theorem dX11_isWithin_7 : decode cX11_isWithin 7 = .ok (.if_icmp .gt 7, 3) := by decide +kernel
theorem dX11_isWithin_10 : decode cX11_isWithin 10 = .ok (.iconst 1, 1) := by decide +kernel
theorem dX11_isWithin_11 : decode cX11_isWithin 11 = .ok (.goto 4, 3) := by decide +kernel
theorem dX11_isWithin_14 : decode cX11_isWithin 14 = .ok (.iconst 0, 1) := by decide +kernel
theorem dX11_isWithin_15 : decode cX11_isWithin 15 = .ok (.ireturn, 1) := by decide +kernel
theorem dX11_isMonth_0 : decode cX11_isMonth 0 = .ok (.iload_n 0, 1) := by decide +kernel
theorem dX11_isMonth_1 : decode cX11_isMonth 1 = .ok (.iconst 0, 1) := by decide +kernel
theorem dX11_isMonth_2 : decode cX11_isMonth 2 = .ok (.bipush 11, 2) := by decide +kernel
theorem dX11_isMonth_4 : decode cX11_isMonth 4 = .ok (.invokestatic 122, 3) := by decide +kernel
theorem dX11_isMonth_7 : decode cX11_isMonth 7 = .ok (.ireturn, 1) := by decide +kernel
theorem dX11_isSheet_0 : decode cX11_isSheet 0 = .ok (.iload_n 0, 1) := by decide +kernel
theorem dX11_isSheet_1 : decode cX11_isSheet 1 = .ok (.iconst 0, 1) := by decide +kernel
theorem dX11_isSheet_2 : decode cX11_isSheet 2 = .ok (.iconst 3, 1) := by decide +kernel
theorem dX11_isSheet_3 : decode cX11_isSheet 3 = .ok (.invokestatic 122, 3) := by decide +kernel
theorem dX11_isSheet_6 : decode cX11_isSheet 6 = .ok (.ireturn, 1) := by decide +kernel
theorem dX11_isSort_0 : decode cX11_isSort 0 = .ok (.iload_n 0, 1) := by decide +kernel
theorem dX11_isSort_1 : decode cX11_isSort 1 = .ok (.iconst 0, 1) := by decide +kernel
theorem dX11_isSort_2 : decode cX11_isSort 2 = .ok (.iconst 2, 1) := by decide +kernel
theorem dX11_isSort_3 : decode cX11_isSort 3 = .ok (.invokestatic 122, 3) := by decide +kernel
theorem dX11_isSort_6 : decode cX11_isSort 6 = .ok (.ireturn, 1) := by decide +kernel
theorem dX11_isApart_0 : decode cX11_isApart 0 = .ok (.iload_n 0, 1) := by decide +kernel
theorem dX11_isApart_1 : decode cX11_isApart 1 = .ok (.iconst 0, 1) := by decide +kernel
theorem dX11_isApart_2 : decode cX11_isApart 2 = .ok (.sipush 999, 3) := by decide +kernel
theorem dX11_isApart_5 : decode cX11_isApart 5 = .ok (.invokestatic 122, 3) := by decide +kernel
theorem dX11_isApart_8 : decode cX11_isApart 8 = .ok (.ireturn, 1) := by decide +kernel
end
section
theorem dX12_init_0 : decode cX12_init 0 = .ok (.aload_n 0, 1) := by decide +kernel
theorem dX12_init_1 : decode cX12_init 1 = .ok (.invokespecial 1, 3) := by decide +kernel
theorem dX12_init_4 : decode cX12_init 4 = .ok (.aload_n 0, 1) := by decide +kernel
theorem dX12_init_5 : decode cX12_init 5 = .ok (.iconst 4, 1) := by decide +kernel
theorem dX12_init_6 : decode cX12_init 6 = .ok (.newarray .int, 2) := by decide +kernel
theorem dX12_init_8 : decode cX12_init 8 = .ok (.dup, 1) := by decide +kernel
theorem dX12_init_9 : decode cX12_init 9 = .ok (.iconst 0, 1) := by decide +kernel
theorem dX12_init_10 : decode cX12_init 10 = .ok (.bipush (-9), 2) := by decide +kernel
theorem dX12_init_12 : decode cX12_init 12 = .ok (.iastore, 1) := by decide +kernel
theorem dX12_init_13 : decode cX12_init 13 = .ok (.dup, 1) := by decide +kernel
theorem dX12_init_14 : decode cX12_init 14 = .ok (.iconst 1, 1) := by decide +kernel
theorem dX12_init_15 : decode cX12_init 15 = .ok (.bipush (-9), 2) := by decide +kernel
theorem dX12_init_17 : decode cX12_init 17 = .ok (.iastore, 1) := by decide +kernel
theorem dX12_init_18 : decode cX12_init 18 = .ok (.dup, 1) := by decide +kernel
theorem dX12_init_19 : decode cX12_init 19 = .ok (.iconst 2, 1) := by decide +kernel
theorem dX12_init_20 : decode cX12_init 20 = .ok (.bipush (-9), 2) := by decide +kernel
theorem dX12_init_22 : decode cX12_init 22 = .ok (.iastore, 1) := by decide +kernel
theorem dX12_init_23 : decode cX12_init 23 = .ok (.dup, 1) := by decide +kernel
theorem dX12_init_24 : decode cX12_init 24 = .ok (.iconst 3, 1) := by decide +kernel
theorem dX12_init_25 : decode cX12_init 25 = .ok (.bipush (-9), 2) := by decide +kernel
theorem dX12_init_27 : decode cX12_init 27 = .ok (.iastore, 1) := by decide +kernel
theorem dX12_init_28 : decode cX12_init 28 = .ok (.putfield 9, 3) := by decide +kernel
theorem dX12_init_31 : decode cX12_init 31 = .ok (.aload_n 0, 1) := by decide +kernel
theorem dX12_init_32 : decode cX12_init 32 = .ok (.iconst 4, 1) := by decide +kernel
theorem dX12_init_33 : decode cX12_init 33 = .ok (.newarray .int, 2) := by decide +kernel
theorem dX12_init_35 : decode cX12_init 35 = .ok (.putfield 13, 3) := by decide +kernel
theorem dX12_init_38 : decode cX12_init 38 = .ok (.aload_n 0, 1) := by decide +kernel
theorem dX12_init_39 : decode cX12_init 39 = .ok (.sipush 320, 3) := by decide +kernel
theorem dX12_init_42 : decode cX12_init 42 = .ok (.newarray .int, 2) := by decide +kernel
theorem dX12_init_44 : decode cX12_init 44 = .ok (.putfield 16, 3) := by decide +kernel
theorem dX12_init_47 : decode cX12_init 47 = .ok (.aload_n 0, 1) := by decide +kernel
theorem dX12_init_48 : decode cX12_init 48 = .ok (.bipush 30, 2) := by decide +kernel
theorem dX12_init_50 : decode cX12_init 50 = .ok (.newarray .int, 2) := by decide +kernel
theorem dX12_init_52 : decode cX12_init 52 = .ok (.putfield 19, 3) := by decide +kernel
theorem dX12_init_55 : decode cX12_init 55 = .ok (.aload_n 0, 1) := by decide +kernel
theorem dX12_init_56 : decode cX12_init 56 = .ok (.bipush 30, 2) := by decide +kernel
theorem dX12_init_58 : decode cX12_init 58 = .ok (.newarray .int, 2) := by decide +kernel
theorem dX12_init_60 : decode cX12_init 60 = .ok (.putfield 22, 3) := by decide +kernel
theorem dX12_init_63 : decode cX12_init 63 = .ok (.aload_n 0, 1) := by decide +kernel
theorem dX12_init_64 : decode cX12_init 64 = .ok (.bipush 30, 2) := by decide +kernel
theorem dX12_init_66 : decode cX12_init 66 = .ok (.newarray .int, 2) := by decide +kernel
theorem dX12_init_68 : decode cX12_init 68 = .ok (.putfield 25, 3) := by decide +kernel
theorem dX12_init_71 : decode cX12_init 71 = .ok (.aload_n 0, 1) := by decide +kernel
theorem dX12_init_72 : decode cX12_init 72 = .ok (.bipush 12, 2) := by decide +kernel
theorem dX12_init_74 : decode cX12_init 74 = .ok (.newarray .int, 2) := by decide +kernel
theorem dX12_init_76 : decode cX12_init 76 = .ok (.putfield 28, 3) := by decide +kernel
theorem dX12_init_79 : decode cX12_init 79 = .ok (.aload_n 0, 1) := by decide +kernel
theorem dX12_init_80 : decode cX12_init 80 = .ok (.bipush 12, 2) := by decide +kernel
theorem dX12_init_82 : decode cX12_init 82 = .ok (.newarray .int, 2) := by decide +kernel
theorem dX12_init_84 : decode cX12_init 84 = .ok (.putfield 31, 3) := by decide +kernel
theorem dX12_init_87 : decode cX12_init 87 = .ok (.aload_n 0, 1) := by decide +kernel
theorem dX12_init_88 : decode cX12_init 88 = .ok (.bipush 30, 2) := by decide +kernel
theorem dX12_init_90 : decode cX12_init 90 = .ok (.newarray .int, 2) := by decide +kernel
theorem dX12_init_92 : decode cX12_init 92 = .ok (.putfield 34, 3) := by decide +kernel
theorem dX12_init_95 : decode cX12_init 95 = .ok (.aload_n 0, 1) := by decide +kernel
theorem dX12_init_96 : decode cX12_init 96 = .ok (.bipush 30, 2) := by decide +kernel
theorem dX12_init_98 : decode cX12_init 98 = .ok (.newarray .int, 2) := by decide +kernel
theorem dX12_init_100 : decode cX12_init 100 = .ok (.putfield 37, 3) := by decide +kernel
theorem dX12_init_103 : decode cX12_init 103 = .ok (.aload_n 0, 1) := by decide +kernel
theorem dX12_init_104 : decode cX12_init 104 = .ok (.bipush 30, 2) := by decide +kernel
theorem dX12_init_106 : decode cX12_init 106 = .ok (.newarray .int, 2) := by decide +kernel
theorem dX12_init_108 : decode cX12_init 108 = .ok (.putfield 40, 3) := by decide +kernel
theorem dX12_init_111 : decode cX12_init 111 = .ok (.aload_n 0, 1) := by decide +kernel
theorem dX12_init_112 : decode cX12_init 112 = .ok (.bipush 30, 2) := by decide +kernel
theorem dX12_init_114 : decode cX12_init 114 = .ok (.newarray .int, 2) := by decide +kernel
theorem dX12_init_116 : decode cX12_init 116 = .ok (.putfield 43, 3) := by decide +kernel
theorem dX12_init_119 : decode cX12_init 119 = .ok (.aload_n 0, 1) := by decide +kernel
theorem dX12_init_120 : decode cX12_init 120 = .ok (.bipush 30, 2) := by decide +kernel
theorem dX12_init_122 : decode cX12_init 122 = .ok (.newarray .int, 2) := by decide +kernel
theorem dX12_init_124 : decode cX12_init 124 = .ok (.putfield 46, 3) := by decide +kernel
theorem dX12_init_127 : decode cX12_init 127 = .ok (.aload_n 0, 1) := by decide +kernel
theorem dX12_init_128 : decode cX12_init 128 = .ok (.bipush 30, 2) := by decide +kernel
theorem dX12_init_130 : decode cX12_init 130 = .ok (.newarray .boolean, 2) := by decide +kernel
theorem dX12_init_132 : decode cX12_init 132 = .ok (.putfield 49, 3) := by decide +kernel
theorem dX12_init_135 : decode cX12_init 135 = .ok (.aload_n 0, 1) := by decide +kernel
theorem dX12_init_136 : decode cX12_init 136 = .ok (.bipush 10, 2) := by decide +kernel
theorem dX12_init_138 : decode cX12_init 138 = .ok (.newarray .int, 2) := by decide +kernel
theorem dX12_init_140 : decode cX12_init 140 = .ok (.putfield 53, 3) := by decide +kernel
theorem dX12_init_143 : decode cX12_init 143 = .ok (.aload_n 0, 1) := by decide +kernel
theorem dX12_init_144 : decode cX12_init 144 = .ok (.bipush 10, 2) := by decide +kernel
theorem dX12_init_146 : decode cX12_init 146 = .ok (.newarray .int, 2) := by decide +kernel
theorem dX12_init_148 : decode cX12_init 148 = .ok (.putfield 56, 3) := by decide +kernel
theorem dX12_init_151 : decode cX12_init 151 = .ok (.aload_n 0, 1) := by decide +kernel
theorem dX12_init_152 : decode cX12_init 152 = .ok (.bipush 10, 2) := by decide +kernel
theorem dX12_init_154 : decode cX12_init 154 = .ok (.newarray .int, 2) := by decide +kernel
theorem dX12_init_156 : decode cX12_init 156 = .ok (.putfield 59, 3) := by decide +kernel
theorem dX12_init_159 : decode cX12_init 159 = .ok (.return_, 1) := by decide +kernel
theorem dX12_fails_0 : decode cX12_fails 0 = .ok (.aload_n 0, 1) := by decide +kernel
theorem dX12_fails_1 : decode cX12_fails 1 = .ok (.iload_n 1, 1) := by decide +kernel
theorem dX12_fails_2 : decode cX12_fails 2 = .ok (.putfield 62, 3) := by decide +kernel
theorem dX12_fails_5 : decode cX12_fails 5 = .ok (.bipush (-10), 2) := by decide +kernel
theorem dX12_fails_7 : decode cX12_fails 7 = .ok (.iload_n 1, 1) := by decide +kernel
theorem dX12_fails_8 : decode cX12_fails 8 = .ok (.isub, 1) := by decide +kernel
theorem dX12_fails_9 : decode cX12_fails 9 = .ok (.ireturn, 1) := by decide +kernel
theorem dX12_lost_0 : decode cX12_lost 0 = .ok (.aload_n 0, 1) := by decide +kernel
theorem dX12_lost_1 : decode cX12_lost 1 = .ok (.iload_n 1, 1) := by decide +kernel
theorem dX12_lost_2 : decode cX12_lost 2 = .ok (.putfield 62, 3) := by decide +kernel
theorem dX12_lost_5 : decode cX12_lost 5 = .ok (.ldc2_w 66, 3) := by decide +kernel
theorem dX12_lost_8 : decode cX12_lost 8 = .ok (.lreturn, 1) := by decide +kernel
theorem dX12_within_0 : decode cX12_within 0 = .ok (.iload_n 0, 1) := by decide +kernel
theorem dX12_within_1 : decode cX12_within 1 = .ok (.iload_n 1, 1) := by decide +kernel
theorem dX12_within_2 : decode cX12_within 2 = .ok (.if_icmp .lt 12, 3) := by decide +kernel
theorem dX12_within_5 : decode cX12_within 5 = .ok (.iload_n 0, 1) := by decide +kernel
theorem dX12_within_6 : decode cX12_within 6 = .ok (.iload_n 2, 1) := by decide +kernel
theorem dX12_within_7 : decode cX12_within 7 = .ok (.if_icmp .gt 7, 3) := by decide +kernel
theorem dX12_within_10 : decode cX12_within 10 = .ok (.iconst 1, 1) := by decide +kernel
theorem dX12_within_11 : decode cX12_within 11 = .ok (.goto 4, 3) := by decide +kernel
theorem dX12_within_14 : decode cX12_within 14 = .ok (.iconst 0, 1) := by decide +kernel
theorem dX12_within_15 : decode cX12_within 15 = .ok (.ireturn, 1) := by decide +kernel
theorem dX12_isSheet_0 : decode cX12_isSheet 0 = .ok (.iload_n 0, 1) := by decide +kernel
theorem dX12_isSheet_1 : decode cX12_isSheet 1 = .ok (.iconst 0, 1) := by decide +kernel
theorem dX12_isSheet_2 : decode cX12_isSheet 2 = .ok (.iconst 3, 1) := by decide +kernel
theorem dX12_isSheet_3 : decode cX12_isSheet 3 = .ok (.invokestatic 68, 3) := by decide +kernel
theorem dX12_isSheet_6 : decode cX12_isSheet 6 = .ok (.ireturn, 1) := by decide +kernel
theorem dX12_isSort_0 : decode cX12_isSort 0 = .ok (.iload_n 0, 1) := by decide +kernel
theorem dX12_isSort_1 : decode cX12_isSort 1 = .ok (.iconst 0, 1) := by decide +kernel
theorem dX12_isSort_2 : decode cX12_isSort 2 = .ok (.iconst 2, 1) := by decide +kernel
theorem dX12_isSort_3 : decode cX12_isSort 3 = .ok (.invokestatic 68, 3) := by decide +kernel
theorem dX12_isSort_6 : decode cX12_isSort 6 = .ok (.ireturn, 1) := by decide +kernel
theorem dX12_against_0 : decode cX12_against 0 = .ok (.aload_n 0, 1) := by decide +kernel
theorem dX12_against_1 : decode cX12_against 1 = .ok (.getfield 9, 3) := by decide +kernel
theorem dX12_against_4 : decode cX12_against 4 = .ok (.iload_n 1, 1) := by decide +kernel
theorem dX12_against_5 : decode cX12_against 5 = .ok (.iaload, 1) := by decide +kernel
theorem dX12_against_6 : decode cX12_against 6 = .ok (.bipush (-9), 2) := by decide +kernel
theorem dX12_against_8 : decode cX12_against 8 = .ok (.if_icmp .eq 15, 3) := by decide +kernel
theorem dX12_against_11 : decode cX12_against 11 = .ok (.aload_n 0, 1) := by decide +kernel
theorem dX12_against_12 : decode cX12_against 12 = .ok (.getfield 9, 3) := by decide +kernel
theorem dX12_against_15 : decode cX12_against 15 = .ok (.iload_n 1, 1) := by decide +kernel
theorem dX12_against_16 : decode cX12_against 16 = .ok (.iaload, 1) := by decide +kernel
theorem dX12_against_17 : decode cX12_against 17 = .ok (.iload_n 2, 1) := by decide +kernel
theorem dX12_against_18 : decode cX12_against 18 = .ok (.if_icmp .eq 5, 3) := by decide +kernel
theorem dX12_against_21 : decode cX12_against 21 = .ok (.iconst 2, 1) := by decide +kernel
theorem dX12_against_22 : decode cX12_against 22 = .ok (.ireturn, 1) := by decide +kernel
theorem dX12_against_23 : decode cX12_against 23 = .ok (.aload_n 0, 1) := by decide +kernel
theorem dX12_against_24 : decode cX12_against 24 = .ok (.getfield 9, 3) := by decide +kernel
theorem dX12_against_27 : decode cX12_against 27 = .ok (.iload_n 1, 1) := by decide +kernel
theorem dX12_against_28 : decode cX12_against 28 = .ok (.iaload, 1) := by decide +kernel
theorem dX12_against_29 : decode cX12_against 29 = .ok (.bipush (-9), 2) := by decide +kernel
theorem dX12_against_31 : decode cX12_against 31 = .ok (.if_icmp .ne 5, 3) := by decide +kernel
theorem dX12_against_34 : decode cX12_against 34 = .ok (.iconst 1, 1) := by decide +kernel
theorem dX12_against_35 : decode cX12_against 35 = .ok (.ireturn, 1) := by decide +kernel
theorem dX12_against_36 : decode cX12_against 36 = .ok (.iload 4, 2) := by decide +kernel
theorem dX12_against_38 : decode cX12_against 38 = .ok (.ifCond .ge 5, 3) := by decide +kernel
theorem dX12_against_41 : decode cX12_against 41 = .ok (.iconst 4, 1) := by decide +kernel
theorem dX12_against_42 : decode cX12_against 42 = .ok (.ireturn, 1) := by decide +kernel
theorem dX12_against_43 : decode cX12_against 43 = .ok (.iload_n 3, 1) := by decide +kernel
theorem dX12_against_44 : decode cX12_against 44 = .ok (.ifCond .lt 26, 3) := by decide +kernel
theorem dX12_against_47 : decode cX12_against 47 = .ok (.iload_n 3, 1) := by decide +kernel
theorem dX12_against_48 : decode cX12_against 48 = .ok (.aload_n 0, 1) := by decide +kernel
theorem dX12_against_49 : decode cX12_against 49 = .ok (.getfield 13, 3) := by decide +kernel
theorem dX12_against_52 : decode cX12_against 52 = .ok (.iload_n 1, 1) := by decide +kernel
theorem dX12_against_53 : decode cX12_against 53 = .ok (.iaload, 1) := by decide +kernel
theorem dX12_against_54 : decode cX12_against 54 = .ok (.if_icmp .gt 16, 3) := by decide +kernel
theorem dX12_against_57 : decode cX12_against 57 = .ok (.iload 4, 2) := by decide +kernel
theorem dX12_against_59 : decode cX12_against 59 = .ok (.aload_n 0, 1) := by decide +kernel
theorem dX12_against_60 : decode cX12_against 60 = .ok (.getfield 13, 3) := by decide +kernel
theorem dX12_against_63 : decode cX12_against 63 = .ok (.iload_n 1, 1) := by decide +kernel
theorem dX12_against_64 : decode cX12_against 64 = .ok (.iaload, 1) := by decide +kernel
theorem dX12_against_65 : decode cX12_against 65 = .ok (.iload_n 3, 1) := by decide +kernel
theorem dX12_against_66 : decode cX12_against 66 = .ok (.isub, 1) := by decide +kernel
theorem dX12_against_67 : decode cX12_against 67 = .ok (.if_icmp .le 7, 3) := by decide +kernel
theorem dX12_against_70 : decode cX12_against 70 = .ok (.iconst 3, 1) := by decide +kernel
theorem dX12_against_71 : decode cX12_against 71 = .ok (.goto 4, 3) := by decide +kernel
theorem dX12_against_74 : decode cX12_against 74 = .ok (.iconst 0, 1) := by decide +kernel
theorem dX12_against_75 : decode cX12_against 75 = .ok (.ireturn, 1) := by decide +kernel
theorem dX12_all_0 : decode cX12_all 0 = .ok (.aload_n 0, 1) := by decide +kernel
theorem dX12_all_1 : decode cX12_all 1 = .ok (.getfield 72, 3) := by decide +kernel
theorem dX12_all_4 : decode cX12_all 4 = .ok (.aload_n 0, 1) := by decide +kernel
theorem dX12_all_5 : decode cX12_all 5 = .ok (.getfield 75, 3) := by decide +kernel
theorem dX12_all_8 : decode cX12_all 8 = .ok (.imul, 1) := by decide +kernel
theorem dX12_all_9 : decode cX12_all 9 = .ok (.ireturn, 1) := by decide +kernel
theorem dX12_isStone_0 : decode cX12_isStone 0 = .ok (.iload_n 1, 1) := by decide +kernel
theorem dX12_isStone_1 : decode cX12_isStone 1 = .ok (.ifCond .lt 15, 3) := by decide +kernel
theorem dX12_isStone_4 : decode cX12_isStone 4 = .ok (.iload_n 1, 1) := by decide +kernel
theorem dX12_isStone_5 : decode cX12_isStone 5 = .ok (.aload_n 0, 1) := by decide +kernel
theorem dX12_isStone_6 : decode cX12_isStone 6 = .ok (.invokevirtual 78, 3) := by decide +kernel
theorem dX12_isStone_9 : decode cX12_isStone 9 = .ok (.if_icmp .ge 7, 3) := by decide +kernel
theorem dX12_isStone_12 : decode cX12_isStone 12 = .ok (.iconst 1, 1) := by decide +kernel
theorem dX12_isStone_13 : decode cX12_isStone 13 = .ok (.goto 4, 3) := by decide +kernel
theorem dX12_isStone_16 : decode cX12_isStone 16 = .ok (.iconst 0, 1) := by decide +kernel
theorem dX12_isStone_17 : decode cX12_isStone 17 = .ok (.ireturn, 1) := by decide +kernel
theorem dX12_isMonth_0 : decode cX12_isMonth 0 = .ok (.iload_n 0, 1) := by decide +kernel
theorem dX12_isMonth_1 : decode cX12_isMonth 1 = .ok (.iconst 0, 1) := by decide +kernel
theorem dX12_isMonth_2 : decode cX12_isMonth 2 = .ok (.bipush 11, 2) := by decide +kernel
theorem dX12_isMonth_4 : decode cX12_isMonth 4 = .ok (.invokestatic 68, 3) := by decide +kernel
theorem dX12_isMonth_7 : decode cX12_isMonth 7 = .ok (.ireturn, 1) := by decide +kernel
theorem dX12_digit_0 : decode cX12_digit 0 = .ok (.aload_n 0, 1) := by decide +kernel
theorem dX12_digit_1 : decode cX12_digit 1 = .ok (.getfield 82, 3) := by decide +kernel
theorem dX12_digit_4 : decode cX12_digit 4 = .ok (.iload_n 1, 1) := by decide +kernel
theorem dX12_digit_5 : decode cX12_digit 5 = .ok (.if_icmp .ge 26, 3) := by decide +kernel
theorem dX12_digit_8 : decode cX12_digit 8 = .ok (.aload_n 0, 1) := by decide +kernel
theorem dX12_digit_9 : decode cX12_digit 9 = .ok (.getfield 16, 3) := by decide +kernel
theorem dX12_digit_12 : decode cX12_digit 12 = .ok (.aload_n 0, 1) := by decide +kernel
theorem dX12_digit_13 : decode cX12_digit 13 = .ok (.getfield 82, 3) := by decide +kernel
theorem dX12_digit_16 : decode cX12_digit 16 = .ok (.iaload, 1) := by decide +kernel
theorem dX12_digit_17 : decode cX12_digit 17 = .ok (.bipush 48, 2) := by decide +kernel
theorem dX12_digit_19 : decode cX12_digit 19 = .ok (.iload_n 2, 1) := by decide +kernel
theorem dX12_digit_20 : decode cX12_digit 20 = .ok (.iadd, 1) := by decide +kernel
theorem dX12_digit_21 : decode cX12_digit 21 = .ok (.bipush 48, 2) := by decide +kernel
theorem dX12_digit_23 : decode cX12_digit 23 = .ok (.iload_n 3, 1) := by decide +kernel
theorem dX12_digit_24 : decode cX12_digit 24 = .ok (.iadd, 1) := by decide +kernel
theorem dX12_digit_25 : decode cX12_digit 25 = .ok (.invokestatic 68, 3) := by decide +kernel
theorem dX12_digit_28 : decode cX12_digit 28 = .ok (.ifCond .ne 6, 3) := by decide +kernel
theorem dX12_digit_31 : decode cX12_digit 31 = .ok (.bipush (-9), 2) := by decide +kernel
theorem dX12_digit_33 : decode cX12_digit 33 = .ok (.ireturn, 1) := by decide +kernel
theorem dX12_digit_34 : decode cX12_digit 34 = .ok (.aload_n 0, 1) := by decide +kernel
theorem dX12_digit_35 : decode cX12_digit 35 = .ok (.dup, 1) := by decide +kernel
theorem dX12_digit_36 : decode cX12_digit 36 = .ok (.getfield 82, 3) := by decide +kernel
theorem dX12_digit_39 : decode cX12_digit 39 = .ok (.iconst 1, 1) := by decide +kernel
theorem dX12_digit_40 : decode cX12_digit 40 = .ok (.iadd, 1) := by decide +kernel
theorem dX12_digit_41 : decode cX12_digit 41 = .ok (.putfield 82, 3) := by decide +kernel
theorem dX12_digit_44 : decode cX12_digit 44 = .ok (.aload_n 0, 1) := by decide +kernel
theorem dX12_digit_45 : decode cX12_digit 45 = .ok (.getfield 16, 3) := by decide +kernel
theorem dX12_digit_48 : decode cX12_digit 48 = .ok (.aload_n 0, 1) := by decide +kernel
theorem dX12_digit_49 : decode cX12_digit 49 = .ok (.getfield 82, 3) := by decide +kernel
theorem dX12_digit_52 : decode cX12_digit 52 = .ok (.iconst 1, 1) := by decide +kernel
theorem dX12_digit_53 : decode cX12_digit 53 = .ok (.isub, 1) := by decide +kernel
theorem dX12_digit_54 : decode cX12_digit 54 = .ok (.iaload, 1) := by decide +kernel
theorem dX12_digit_55 : decode cX12_digit 55 = .ok (.bipush 48, 2) := by decide +kernel
theorem dX12_digit_57 : decode cX12_digit 57 = .ok (.isub, 1) := by decide +kernel
theorem dX12_digit_58 : decode cX12_digit 58 = .ok (.ireturn, 1) := by decide +kernel
theorem dX12_square_0 : decode cX12_square 0 = .ok (.aload_n 0, 1) := by decide +kernel
theorem dX12_square_1 : decode cX12_square 1 = .ok (.iconst 0, 1) := by decide +kernel
theorem dX12_square_2 : decode cX12_square 2 = .ok (.putfield 62, 3) := by decide +kernel
theorem dX12_square_5 : decode cX12_square 5 = .ok (.iload_n 1, 1) := by decide +kernel
theorem dX12_square_6 : decode cX12_square 6 = .ok (.invokestatic 85, 3) := by decide +kernel
theorem dX12_square_9 : decode cX12_square 9 = .ok (.ifCond .ne 5, 3) := by decide +kernel
theorem dX12_square_12 : decode cX12_square 12 = .ok (.iconst (-1), 1) := by decide +kernel
theorem dX12_square_13 : decode cX12_square 13 = .ok (.ireturn, 1) := by decide +kernel
theorem dX12_square_14 : decode cX12_square 14 = .ok (.iload_n 2, 1) := by decide +kernel
theorem dX12_square_15 : decode cX12_square 15 = .ok (.invokestatic 89, 3) := by decide +kernel
theorem dX12_square_18 : decode cX12_square 18 = .ok (.ifCond .ne 6, 3) := by decide +kernel
theorem dX12_square_21 : decode cX12_square 21 = .ok (.bipush (-2), 2) := by decide +kernel
theorem dX12_square_23 : decode cX12_square 23 = .ok (.ireturn, 1) := by decide +kernel
theorem dX12_square_24 : decode cX12_square 24 = .ok (.aload_n 0, 1) := by decide +kernel
theorem dX12_square_25 : decode cX12_square 25 = .ok (.iload_n 1, 1) := by decide +kernel
theorem dX12_square_26 : decode cX12_square 26 = .ok (.iload_n 2, 1) := by decide +kernel
theorem dX12_square_27 : decode cX12_square 27 = .ok (.iload_n 3, 1) := by decide +kernel
theorem dX12_square_28 : decode cX12_square 28 = .ok (.iload 4, 2) := by decide +kernel
theorem dX12_square_30 : decode cX12_square 30 = .ok (.invokevirtual 92, 3) := by decide +kernel
theorem dX12_square_33 : decode cX12_square 33 = .ok (.istore 5, 2) := by decide +kernel
theorem dX12_square_35 : decode cX12_square 35 = .ok (.iload 5, 2) := by decide +kernel
theorem dX12_square_37 : decode cX12_square 37 = .ok (.ifCond .eq 10, 3) := by decide +kernel
theorem dX12_square_40 : decode cX12_square 40 = .ok (.aload_n 0, 1) := by decide +kernel
theorem dX12_square_41 : decode cX12_square 41 = .ok (.iload 5, 2) := by decide +kernel
theorem dX12_square_43 : decode cX12_square 43 = .ok (.invokevirtual 96, 3) := by decide +kernel
theorem dX12_square_46 : decode cX12_square 46 = .ok (.ireturn, 1) := by decide +kernel
theorem dX12_square_47 : decode cX12_square 47 = .ok (.bipush 80, 2) := by decide +kernel
theorem dX12_square_49 : decode cX12_square 49 = .ok (.iload_n 1, 1) := by decide +kernel
theorem dX12_square_50 : decode cX12_square 50 = .ok (.imul, 1) := by decide +kernel
theorem dX12_square_51 : decode cX12_square 51 = .ok (.iload_n 3, 1) := by decide +kernel
theorem dX12_square_52 : decode cX12_square 52 = .ok (.iadd, 1) := by decide +kernel
theorem dX12_square_53 : decode cX12_square 53 = .ok (.istore 6, 2) := by decide +kernel
theorem dX12_square_55 : decode cX12_square 55 = .ok (.aload_n 0, 1) := by decide +kernel
theorem dX12_square_56 : decode cX12_square 56 = .ok (.iload 6, 2) := by decide +kernel
theorem dX12_square_58 : decode cX12_square 58 = .ok (.putfield 82, 3) := by decide +kernel
theorem dX12_square_61 : decode cX12_square 61 = .ok (.aload_n 0, 1) := by decide +kernel
theorem dX12_square_62 : decode cX12_square 62 = .ok (.iload 6, 2) := by decide +kernel
theorem dX12_square_64 : decode cX12_square 64 = .ok (.iload 4, 2) := by decide +kernel
theorem dX12_square_66 : decode cX12_square 66 = .ok (.iadd, 1) := by decide +kernel
theorem dX12_square_67 : decode cX12_square 67 = .ok (.invokevirtual 100, 3) := by decide +kernel
theorem dX12_square_70 : decode cX12_square 70 = .ok (.ifCond .ne 14, 3) := by decide +kernel
theorem dX12_square_73 : decode cX12_square 73 = .ok (.bipush (-100), 2) := by decide +kernel
theorem dX12_square_75 : decode cX12_square 75 = .ok (.aload_n 0, 1) := by decide +kernel
theorem dX12_square_76 : decode cX12_square 76 = .ok (.getfield 82, 3) := by decide +kernel
theorem dX12_square_79 : decode cX12_square 79 = .ok (.iload 6, 2) := by decide +kernel
theorem dX12_square_81 : decode cX12_square 81 = .ok (.isub, 1) := by decide +kernel
theorem dX12_square_82 : decode cX12_square 82 = .ok (.isub, 1) := by decide +kernel
theorem dX12_square_83 : decode cX12_square 83 = .ok (.ireturn, 1) := by decide +kernel
theorem dX12_square_84 : decode cX12_square 84 = .ok (.aload_n 0, 1) := by decide +kernel
theorem dX12_square_85 : decode cX12_square 85 = .ok (.aload_n 0, 1) := by decide +kernel
theorem dX12_square_86 : decode cX12_square 86 = .ok (.getfield 103, 3) := by decide +kernel
theorem dX12_square_89 : decode cX12_square 89 = .ok (.putfield 72, 3) := by decide +kernel
theorem dX12_square_92 : decode cX12_square 92 = .ok (.aload_n 0, 1) := by decide +kernel
theorem dX12_square_93 : decode cX12_square 93 = .ok (.aload_n 0, 1) := by decide +kernel
theorem dX12_square_94 : decode cX12_square 94 = .ok (.getfield 106, 3) := by decide +kernel
theorem dX12_square_97 : decode cX12_square 97 = .ok (.putfield 75, 3) := by decide +kernel
theorem dX12_square_100 : decode cX12_square 100 = .ok (.iconst 0, 1) := by decide +kernel
theorem dX12_square_101 : decode cX12_square 101 = .ok (.istore 7, 2) := by decide +kernel
theorem dX12_square_103 : decode cX12_square 103 = .ok (.iload 7, 2) := by decide +kernel
theorem dX12_square_105 : decode cX12_square 105 = .ok (.aload_n 0, 1) := by decide +kernel
theorem dX12_square_106 : decode cX12_square 106 = .ok (.invokevirtual 78, 3) := by decide +kernel
theorem dX12_square_109 : decode cX12_square 109 = .ok (.if_icmp .ge 45, 3) := by decide +kernel
theorem dX12_square_112 : decode cX12_square 112 = .ok (.aload_n 0, 1) := by decide +kernel
theorem dX12_square_113 : decode cX12_square 113 = .ok (.getfield 19, 3) := by decide +kernel
theorem dX12_square_116 : decode cX12_square 116 = .ok (.iload 7, 2) := by decide +kernel
theorem dX12_square_118 : decode cX12_square 118 = .ok (.aload_n 0, 1) := by decide +kernel
theorem dX12_square_119 : decode cX12_square 119 = .ok (.getfield 34, 3) := by decide +kernel
theorem dX12_square_122 : decode cX12_square 122 = .ok (.iload 7, 2) := by decide +kernel
theorem dX12_square_124 : decode cX12_square 124 = .ok (.iaload, 1) := by decide +kernel
theorem dX12_square_125 : decode cX12_square 125 = .ok (.iastore, 1) := by decide +kernel
theorem dX12_square_126 : decode cX12_square 126 = .ok (.aload_n 0, 1) := by decide +kernel
theorem dX12_square_127 : decode cX12_square 127 = .ok (.getfield 22, 3) := by decide +kernel
theorem dX12_square_130 : decode cX12_square 130 = .ok (.iload 7, 2) := by decide +kernel
theorem dX12_square_132 : decode cX12_square 132 = .ok (.aload_n 0, 1) := by decide +kernel
theorem dX12_square_133 : decode cX12_square 133 = .ok (.getfield 37, 3) := by decide +kernel
theorem dX12_square_136 : decode cX12_square 136 = .ok (.iload 7, 2) := by decide +kernel
theorem dX12_square_138 : decode cX12_square 138 = .ok (.iaload, 1) := by decide +kernel
theorem dX12_square_139 : decode cX12_square 139 = .ok (.iastore, 1) := by decide +kernel
theorem dX12_square_140 : decode cX12_square 140 = .ok (.aload_n 0, 1) := by decide +kernel
theorem dX12_square_141 : decode cX12_square 141 = .ok (.getfield 25, 3) := by decide +kernel
theorem dX12_square_144 : decode cX12_square 144 = .ok (.iload 7, 2) := by decide +kernel
theorem dX12_square_146 : decode cX12_square 146 = .ok (.iconst 0, 1) := by decide +kernel
theorem dX12_square_147 : decode cX12_square 147 = .ok (.iastore, 1) := by decide +kernel
theorem dX12_square_148 : decode cX12_square 148 = .ok (.iinc 7 1, 3) := by decide +kernel
theorem dX12_square_151 : decode cX12_square 151 = .ok (.goto (-48), 3) := by decide +kernel
theorem dX12_square_154 : decode cX12_square 154 = .ok (.iconst 0, 1) := by decide +kernel
theorem dX12_square_155 : decode cX12_square 155 = .ok (.istore 7, 2) := by decide +kernel
theorem dX12_square_157 : decode cX12_square 157 = .ok (.iload 7, 2) := by decide +kernel
theorem dX12_square_159 : decode cX12_square 159 = .ok (.bipush 12, 2) := by decide +kernel
theorem dX12_square_161 : decode cX12_square 161 = .ok (.if_icmp .ge 25, 3) := by decide +kernel
theorem dX12_square_164 : decode cX12_square 164 = .ok (.aload_n 0, 1) := by decide +kernel
theorem dX12_square_165 : decode cX12_square 165 = .ok (.getfield 28, 3) := by decide +kernel
theorem dX12_square_168 : decode cX12_square 168 = .ok (.iload 7, 2) := by decide +kernel
theorem dX12_square_170 : decode cX12_square 170 = .ok (.iconst 0, 1) := by decide +kernel
theorem dX12_square_171 : decode cX12_square 171 = .ok (.iastore, 1) := by decide +kernel
theorem dX12_square_172 : decode cX12_square 172 = .ok (.aload_n 0, 1) := by decide +kernel
theorem dX12_square_173 : decode cX12_square 173 = .ok (.getfield 31, 3) := by decide +kernel
theorem dX12_square_176 : decode cX12_square 176 = .ok (.iload 7, 2) := by decide +kernel
theorem dX12_square_178 : decode cX12_square 178 = .ok (.iconst 0, 1) := by decide +kernel
theorem dX12_square_179 : decode cX12_square 179 = .ok (.iastore, 1) := by decide +kernel
theorem dX12_square_180 : decode cX12_square 180 = .ok (.iinc 7 1, 3) := by decide +kernel
theorem dX12_square_183 : decode cX12_square 183 = .ok (.goto (-26), 3) := by decide +kernel
theorem dX12_square_186 : decode cX12_square 186 = .ok (.aload_n 0, 1) := by decide +kernel
theorem dX12_square_187 : decode cX12_square 187 = .ok (.iconst 0, 1) := by decide +kernel
theorem dX12_square_188 : decode cX12_square 188 = .ok (.putfield 109, 3) := by decide +kernel
theorem dX12_square_191 : decode cX12_square 191 = .ok (.aload_n 0, 1) := by decide +kernel
theorem dX12_square_192 : decode cX12_square 192 = .ok (.invokevirtual 78, 3) := by decide +kernel
theorem dX12_square_195 : decode cX12_square 195 = .ok (.ireturn, 1) := by decide +kernel
theorem dX12_readSquare_0 : decode cX12_readSquare 0 = .ok (.aload_n 0, 1) := by decide +kernel
theorem dX12_readSquare_1 : decode cX12_readSquare 1 = .ok (.getfield 82, 3) := by decide +kernel
theorem dX12_readSquare_4 : decode cX12_readSquare 4 = .ok (.iload_n 1, 1) := by decide +kernel
theorem dX12_readSquare_5 : decode cX12_readSquare 5 = .ok (.if_icmp .ge 17, 3) := by decide +kernel
theorem dX12_readSquare_8 : decode cX12_readSquare 8 = .ok (.aload_n 0, 1) := by decide +kernel
theorem dX12_readSquare_9 : decode cX12_readSquare 9 = .ok (.getfield 16, 3) := by decide +kernel
theorem dX12_readSquare_12 : decode cX12_readSquare 12 = .ok (.aload_n 0, 1) := by decide +kernel
theorem dX12_readSquare_13 : decode cX12_readSquare 13 = .ok (.getfield 82, 3) := by decide +kernel
theorem dX12_readSquare_16 : decode cX12_readSquare 16 = .ok (.iaload, 1) := by decide +kernel
theorem dX12_readSquare_17 : decode cX12_readSquare 17 = .ok (.bipush 113, 2) := by decide +kernel
theorem dX12_readSquare_19 : decode cX12_readSquare 19 = .ok (.if_icmp .eq 5, 3) := by decide +kernel
theorem dX12_readSquare_22 : decode cX12_readSquare 22 = .ok (.iconst 0, 1) := by decide +kernel
theorem dX12_readSquare_23 : decode cX12_readSquare 23 = .ok (.ireturn, 1) := by decide +kernel
theorem dX12_readSquare_24 : decode cX12_readSquare 24 = .ok (.aload_n 0, 1) := by decide +kernel
theorem dX12_readSquare_25 : decode cX12_readSquare 25 = .ok (.dup, 1) := by decide +kernel
theorem dX12_readSquare_26 : decode cX12_readSquare 26 = .ok (.getfield 82, 3) := by decide +kernel
theorem dX12_readSquare_29 : decode cX12_readSquare 29 = .ok (.iconst 1, 1) := by decide +kernel
theorem dX12_readSquare_30 : decode cX12_readSquare 30 = .ok (.iadd, 1) := by decide +kernel
theorem dX12_readSquare_31 : decode cX12_readSquare 31 = .ok (.putfield 82, 3) := by decide +kernel
theorem dX12_readSquare_34 : decode cX12_readSquare 34 = .ok (.aload_n 0, 1) := by decide +kernel
theorem dX12_readSquare_35 : decode cX12_readSquare 35 = .ok (.aload_n 0, 1) := by decide +kernel
theorem dX12_readSquare_36 : decode cX12_readSquare 36 = .ok (.iload_n 1, 1) := by decide +kernel
theorem dX12_readSquare_37 : decode cX12_readSquare 37 = .ok (.iconst 2, 1) := by decide +kernel
theorem dX12_readSquare_38 : decode cX12_readSquare 38 = .ok (.iconst 5, 1) := by decide +kernel
theorem dX12_readSquare_39 : decode cX12_readSquare 39 = .ok (.invokevirtual 112, 3) := by decide +kernel
theorem dX12_readSquare_42 : decode cX12_readSquare 42 = .ok (.putfield 103, 3) := by decide +kernel
theorem dX12_readSquare_45 : decode cX12_readSquare 45 = .ok (.aload_n 0, 1) := by decide +kernel
theorem dX12_readSquare_46 : decode cX12_readSquare 46 = .ok (.getfield 103, 3) := by decide +kernel
theorem dX12_readSquare_49 : decode cX12_readSquare 49 = .ok (.bipush (-9), 2) := by decide +kernel
theorem dX12_readSquare_51 : decode cX12_readSquare 51 = .ok (.if_icmp .ne 5, 3) := by decide +kernel
theorem dX12_readSquare_54 : decode cX12_readSquare 54 = .ok (.iconst 0, 1) := by decide +kernel
theorem dX12_readSquare_55 : decode cX12_readSquare 55 = .ok (.ireturn, 1) := by decide +kernel
theorem dX12_readSquare_56 : decode cX12_readSquare 56 = .ok (.aload_n 0, 1) := by decide +kernel
theorem dX12_readSquare_57 : decode cX12_readSquare 57 = .ok (.aload_n 0, 1) := by decide +kernel
theorem dX12_readSquare_58 : decode cX12_readSquare 58 = .ok (.iload_n 1, 1) := by decide +kernel
theorem dX12_readSquare_59 : decode cX12_readSquare 59 = .ok (.iconst 2, 1) := by decide +kernel
theorem dX12_readSquare_60 : decode cX12_readSquare 60 = .ok (.bipush 6, 2) := by decide +kernel
theorem dX12_readSquare_62 : decode cX12_readSquare 62 = .ok (.invokevirtual 112, 3) := by decide +kernel
theorem dX12_readSquare_65 : decode cX12_readSquare 65 = .ok (.putfield 106, 3) := by decide +kernel
theorem dX12_readSquare_68 : decode cX12_readSquare 68 = .ok (.aload_n 0, 1) := by decide +kernel
theorem dX12_readSquare_69 : decode cX12_readSquare 69 = .ok (.getfield 106, 3) := by decide +kernel
theorem dX12_readSquare_72 : decode cX12_readSquare 72 = .ok (.bipush (-9), 2) := by decide +kernel
theorem dX12_readSquare_74 : decode cX12_readSquare 74 = .ok (.if_icmp .ne 5, 3) := by decide +kernel
theorem dX12_readSquare_77 : decode cX12_readSquare 77 = .ok (.iconst 0, 1) := by decide +kernel
theorem dX12_readSquare_78 : decode cX12_readSquare 78 = .ok (.ireturn, 1) := by decide +kernel
theorem dX12_readSquare_79 : decode cX12_readSquare 79 = .ok (.iconst 0, 1) := by decide +kernel
theorem dX12_readSquare_80 : decode cX12_readSquare 80 = .ok (.istore_n 2, 1) := by decide +kernel
theorem dX12_readSquare_81 : decode cX12_readSquare 81 = .ok (.iload_n 2, 1) := by decide +kernel
theorem dX12_readSquare_82 : decode cX12_readSquare 82 = .ok (.aload_n 0, 1) := by decide +kernel
theorem dX12_readSquare_83 : decode cX12_readSquare 83 = .ok (.getfield 103, 3) := by decide +kernel
theorem dX12_readSquare_86 : decode cX12_readSquare 86 = .ok (.if_icmp .ge 77, 3) := by decide +kernel
theorem dX12_readSquare_89 : decode cX12_readSquare 89 = .ok (.aload_n 0, 1) := by decide +kernel
theorem dX12_readSquare_90 : decode cX12_readSquare 90 = .ok (.getfield 82, 3) := by decide +kernel
theorem dX12_readSquare_93 : decode cX12_readSquare 93 = .ok (.iload_n 1, 1) := by decide +kernel
theorem dX12_readSquare_94 : decode cX12_readSquare 94 = .ok (.if_icmp .ge 17, 3) := by decide +kernel
theorem dX12_readSquare_97 : decode cX12_readSquare 97 = .ok (.aload_n 0, 1) := by decide +kernel
theorem dX12_readSquare_98 : decode cX12_readSquare 98 = .ok (.getfield 16, 3) := by decide +kernel
theorem dX12_readSquare_101 : decode cX12_readSquare 101 = .ok (.aload_n 0, 1) := by decide +kernel
theorem dX12_readSquare_102 : decode cX12_readSquare 102 = .ok (.getfield 82, 3) := by decide +kernel
theorem dX12_readSquare_105 : decode cX12_readSquare 105 = .ok (.iaload, 1) := by decide +kernel
theorem dX12_readSquare_106 : decode cX12_readSquare 106 = .ok (.bipush 59, 2) := by decide +kernel
theorem dX12_readSquare_108 : decode cX12_readSquare 108 = .ok (.if_icmp .eq 5, 3) := by decide +kernel
theorem dX12_readSquare_111 : decode cX12_readSquare 111 = .ok (.iconst 0, 1) := by decide +kernel
theorem dX12_readSquare_112 : decode cX12_readSquare 112 = .ok (.ireturn, 1) := by decide +kernel
theorem dX12_readSquare_113 : decode cX12_readSquare 113 = .ok (.aload_n 0, 1) := by decide +kernel
theorem dX12_readSquare_114 : decode cX12_readSquare 114 = .ok (.dup, 1) := by decide +kernel
theorem dX12_readSquare_115 : decode cX12_readSquare 115 = .ok (.getfield 82, 3) := by decide +kernel
theorem dX12_readSquare_118 : decode cX12_readSquare 118 = .ok (.iconst 1, 1) := by decide +kernel
theorem dX12_readSquare_119 : decode cX12_readSquare 119 = .ok (.iadd, 1) := by decide +kernel
theorem dX12_readSquare_120 : decode cX12_readSquare 120 = .ok (.putfield 82, 3) := by decide +kernel
theorem dX12_readSquare_123 : decode cX12_readSquare 123 = .ok (.iconst 0, 1) := by decide +kernel
theorem dX12_readSquare_124 : decode cX12_readSquare 124 = .ok (.istore_n 3, 1) := by decide +kernel
theorem dX12_readSquare_125 : decode cX12_readSquare 125 = .ok (.iload_n 3, 1) := by decide +kernel
theorem dX12_readSquare_126 : decode cX12_readSquare 126 = .ok (.aload_n 0, 1) := by decide +kernel
theorem dX12_readSquare_127 : decode cX12_readSquare 127 = .ok (.getfield 106, 3) := by decide +kernel
theorem dX12_readSquare_130 : decode cX12_readSquare 130 = .ok (.if_icmp .ge 27, 3) := by decide +kernel
theorem dX12_readSquare_133 : decode cX12_readSquare 133 = .ok (.aload_n 0, 1) := by decide +kernel
theorem dX12_readSquare_134 : decode cX12_readSquare 134 = .ok (.iload_n 1, 1) := by decide +kernel
theorem dX12_readSquare_135 : decode cX12_readSquare 135 = .ok (.aload_n 0, 1) := by decide +kernel
theorem dX12_readSquare_136 : decode cX12_readSquare 136 = .ok (.getfield 106, 3) := by decide +kernel
theorem dX12_readSquare_139 : decode cX12_readSquare 139 = .ok (.iload_n 2, 1) := by decide +kernel
theorem dX12_readSquare_140 : decode cX12_readSquare 140 = .ok (.imul, 1) := by decide +kernel
theorem dX12_readSquare_141 : decode cX12_readSquare 141 = .ok (.iload_n 3, 1) := by decide +kernel
theorem dX12_readSquare_142 : decode cX12_readSquare 142 = .ok (.iadd, 1) := by decide +kernel
theorem dX12_readSquare_143 : decode cX12_readSquare 143 = .ok (.invokevirtual 116, 3) := by decide +kernel
theorem dX12_readSquare_146 : decode cX12_readSquare 146 = .ok (.ifCond .ne 5, 3) := by decide +kernel
theorem dX12_readSquare_149 : decode cX12_readSquare 149 = .ok (.iconst 0, 1) := by decide +kernel
theorem dX12_readSquare_150 : decode cX12_readSquare 150 = .ok (.ireturn, 1) := by decide +kernel
theorem dX12_readSquare_151 : decode cX12_readSquare 151 = .ok (.iinc 3 1, 3) := by decide +kernel
theorem dX12_readSquare_154 : decode cX12_readSquare 154 = .ok (.goto (-29), 3) := by decide +kernel
theorem dX12_readSquare_157 : decode cX12_readSquare 157 = .ok (.iinc 2 1, 3) := by decide +kernel
theorem dX12_readSquare_160 : decode cX12_readSquare 160 = .ok (.goto (-79), 3) := by decide +kernel
theorem dX12_readSquare_163 : decode cX12_readSquare 163 = .ok (.aload_n 0, 1) := by decide +kernel
theorem dX12_readSquare_164 : decode cX12_readSquare 164 = .ok (.getfield 82, 3) := by decide +kernel
theorem dX12_readSquare_167 : decode cX12_readSquare 167 = .ok (.iload_n 1, 1) := by decide +kernel
theorem dX12_readSquare_168 : decode cX12_readSquare 168 = .ok (.if_icmp .ne 7, 3) := by decide +kernel
theorem dX12_readSquare_171 : decode cX12_readSquare 171 = .ok (.iconst 1, 1) := by decide +kernel
theorem dX12_readSquare_172 : decode cX12_readSquare 172 = .ok (.goto 4, 3) := by decide +kernel
theorem dX12_readSquare_175 : decode cX12_readSquare 175 = .ok (.iconst 0, 1) := by decide +kernel
theorem dX12_readSquare_176 : decode cX12_readSquare 176 = .ok (.ireturn, 1) := by decide +kernel
theorem dX12_readStone_0 : decode cX12_readStone 0 = .ok (.aload_n 0, 1) := by decide +kernel
theorem dX12_readStone_1 : decode cX12_readStone 1 = .ok (.getfield 82, 3) := by decide +kernel
theorem dX12_readStone_4 : decode cX12_readStone 4 = .ok (.iload_n 1, 1) := by decide +kernel
theorem dX12_readStone_5 : decode cX12_readStone 5 = .ok (.if_icmp .lt 5, 3) := by decide +kernel
theorem dX12_readStone_8 : decode cX12_readStone 8 = .ok (.iconst 0, 1) := by decide +kernel
theorem dX12_readStone_9 : decode cX12_readStone 9 = .ok (.ireturn, 1) := by decide +kernel
theorem dX12_readStone_10 : decode cX12_readStone 10 = .ok (.aload_n 0, 1) := by decide +kernel
theorem dX12_readStone_11 : decode cX12_readStone 11 = .ok (.getfield 16, 3) := by decide +kernel
theorem dX12_readStone_14 : decode cX12_readStone 14 = .ok (.aload_n 0, 1) := by decide +kernel
theorem dX12_readStone_15 : decode cX12_readStone 15 = .ok (.getfield 82, 3) := by decide +kernel
theorem dX12_readStone_18 : decode cX12_readStone 18 = .ok (.iaload, 1) := by decide +kernel
theorem dX12_readStone_19 : decode cX12_readStone 19 = .ok (.istore_n 3, 1) := by decide +kernel
theorem dX12_readStone_20 : decode cX12_readStone 20 = .ok (.aload_n 0, 1) := by decide +kernel
theorem dX12_readStone_21 : decode cX12_readStone 21 = .ok (.getfield 34, 3) := by decide +kernel
theorem dX12_readStone_24 : decode cX12_readStone 24 = .ok (.iload_n 2, 1) := by decide +kernel
theorem dX12_readStone_25 : decode cX12_readStone 25 = .ok (.iload_n 3, 1) := by decide +kernel
theorem dX12_readStone_26 : decode cX12_readStone 26 = .ok (.bipush 115, 2) := by decide +kernel
theorem dX12_readStone_28 : decode cX12_readStone 28 = .ok (.if_icmp .ne 7, 3) := by decide +kernel
theorem dX12_readStone_31 : decode cX12_readStone 31 = .ok (.iconst 0, 1) := by decide +kernel
theorem dX12_readStone_32 : decode cX12_readStone 32 = .ok (.goto 25, 3) := by decide +kernel
theorem dX12_readStone_35 : decode cX12_readStone 35 = .ok (.iload_n 3, 1) := by decide +kernel
theorem dX12_readStone_36 : decode cX12_readStone 36 = .ok (.bipush 99, 2) := by decide +kernel
theorem dX12_readStone_38 : decode cX12_readStone 38 = .ok (.if_icmp .ne 7, 3) := by decide +kernel
theorem dX12_readStone_41 : decode cX12_readStone 41 = .ok (.iconst 1, 1) := by decide +kernel
theorem dX12_readStone_42 : decode cX12_readStone 42 = .ok (.goto 15, 3) := by decide +kernel
theorem dX12_readStone_45 : decode cX12_readStone 45 = .ok (.iload_n 3, 1) := by decide +kernel
theorem dX12_readStone_46 : decode cX12_readStone 46 = .ok (.bipush 102, 2) := by decide +kernel
theorem dX12_readStone_48 : decode cX12_readStone 48 = .ok (.if_icmp .ne 7, 3) := by decide +kernel
theorem dX12_readStone_51 : decode cX12_readStone 51 = .ok (.iconst 2, 1) := by decide +kernel
theorem dX12_readStone_52 : decode cX12_readStone 52 = .ok (.goto 5, 3) := by decide +kernel
theorem dX12_readStone_55 : decode cX12_readStone 55 = .ok (.bipush (-9), 2) := by decide +kernel
theorem dX12_readStone_57 : decode cX12_readStone 57 = .ok (.iastore, 1) := by decide +kernel
theorem dX12_readStone_58 : decode cX12_readStone 58 = .ok (.aload_n 0, 1) := by decide +kernel
theorem dX12_readStone_59 : decode cX12_readStone 59 = .ok (.getfield 34, 3) := by decide +kernel
theorem dX12_readStone_62 : decode cX12_readStone 62 = .ok (.iload_n 2, 1) := by decide +kernel
theorem dX12_readStone_63 : decode cX12_readStone 63 = .ok (.iaload, 1) := by decide +kernel
theorem dX12_readStone_64 : decode cX12_readStone 64 = .ok (.bipush (-9), 2) := by decide +kernel
theorem dX12_readStone_66 : decode cX12_readStone 66 = .ok (.if_icmp .ne 5, 3) := by decide +kernel
theorem dX12_readStone_69 : decode cX12_readStone 69 = .ok (.iconst 0, 1) := by decide +kernel
theorem dX12_readStone_70 : decode cX12_readStone 70 = .ok (.ireturn, 1) := by decide +kernel
theorem dX12_readStone_71 : decode cX12_readStone 71 = .ok (.aload_n 0, 1) := by decide +kernel
theorem dX12_readStone_72 : decode cX12_readStone 72 = .ok (.dup, 1) := by decide +kernel
theorem dX12_readStone_73 : decode cX12_readStone 73 = .ok (.getfield 82, 3) := by decide +kernel
theorem dX12_readStone_76 : decode cX12_readStone 76 = .ok (.iconst 1, 1) := by decide +kernel
theorem dX12_readStone_77 : decode cX12_readStone 77 = .ok (.iadd, 1) := by decide +kernel
theorem dX12_readStone_78 : decode cX12_readStone 78 = .ok (.putfield 82, 3) := by decide +kernel
theorem dX12_readStone_81 : decode cX12_readStone 81 = .ok (.aload_n 0, 1) := by decide +kernel
theorem dX12_readStone_82 : decode cX12_readStone 82 = .ok (.getfield 37, 3) := by decide +kernel
theorem dX12_readStone_85 : decode cX12_readStone 85 = .ok (.iload_n 2, 1) := by decide +kernel
theorem dX12_readStone_86 : decode cX12_readStone 86 = .ok (.aload_n 0, 1) := by decide +kernel
theorem dX12_readStone_87 : decode cX12_readStone 87 = .ok (.iload_n 1, 1) := by decide +kernel
theorem dX12_readStone_88 : decode cX12_readStone 88 = .ok (.iconst 0, 1) := by decide +kernel
theorem dX12_readStone_89 : decode cX12_readStone 89 = .ok (.bipush 9, 2) := by decide +kernel
theorem dX12_readStone_91 : decode cX12_readStone 91 = .ok (.invokevirtual 112, 3) := by decide +kernel
theorem dX12_readStone_94 : decode cX12_readStone 94 = .ok (.iastore, 1) := by decide +kernel
theorem dX12_readStone_95 : decode cX12_readStone 95 = .ok (.aload_n 0, 1) := by decide +kernel
theorem dX12_readStone_96 : decode cX12_readStone 96 = .ok (.getfield 37, 3) := by decide +kernel
theorem dX12_readStone_99 : decode cX12_readStone 99 = .ok (.iload_n 2, 1) := by decide +kernel
theorem dX12_readStone_100 : decode cX12_readStone 100 = .ok (.iaload, 1) := by decide +kernel
theorem dX12_readStone_101 : decode cX12_readStone 101 = .ok (.bipush (-9), 2) := by decide +kernel
theorem dX12_readStone_103 : decode cX12_readStone 103 = .ok (.if_icmp .eq 7, 3) := by decide +kernel
theorem dX12_readStone_106 : decode cX12_readStone 106 = .ok (.iconst 1, 1) := by decide +kernel
theorem dX12_readStone_107 : decode cX12_readStone 107 = .ok (.goto 4, 3) := by decide +kernel
theorem dX12_readStone_110 : decode cX12_readStone 110 = .ok (.iconst 0, 1) := by decide +kernel
theorem dX12_readStone_111 : decode cX12_readStone 111 = .ok (.ireturn, 1) := by decide +kernel
theorem dX12_ofStone_0 : decode cX12_ofStone 0 = .ok (.aload_n 0, 1) := by decide +kernel
theorem dX12_ofStone_1 : decode cX12_ofStone 1 = .ok (.iload_n 1, 1) := by decide +kernel
theorem dX12_ofStone_2 : decode cX12_ofStone 2 = .ok (.invokevirtual 120, 3) := by decide +kernel
theorem dX12_ofStone_5 : decode cX12_ofStone 5 = .ok (.ifCond .ne 5, 3) := by decide +kernel
theorem dX12_ofStone_8 : decode cX12_ofStone 8 = .ok (.iconst (-1), 1) := by decide +kernel
theorem dX12_ofStone_9 : decode cX12_ofStone 9 = .ok (.ireturn, 1) := by decide +kernel
theorem dX12_ofStone_10 : decode cX12_ofStone 10 = .ok (.iload_n 2, 1) := by decide +kernel
theorem dX12_ofStone_11 : decode cX12_ofStone 11 = .ok (.ifCond .ne 12, 3) := by decide +kernel
theorem dX12_ofStone_14 : decode cX12_ofStone 14 = .ok (.aload_n 0, 1) := by decide +kernel
theorem dX12_ofStone_15 : decode cX12_ofStone 15 = .ok (.getfield 19, 3) := by decide +kernel
theorem dX12_ofStone_18 : decode cX12_ofStone 18 = .ok (.iload_n 1, 1) := by decide +kernel
theorem dX12_ofStone_19 : decode cX12_ofStone 19 = .ok (.iaload, 1) := by decide +kernel
theorem dX12_ofStone_20 : decode cX12_ofStone 20 = .ok (.goto 33, 3) := by decide +kernel
theorem dX12_ofStone_23 : decode cX12_ofStone 23 = .ok (.iload_n 2, 1) := by decide +kernel
theorem dX12_ofStone_24 : decode cX12_ofStone 24 = .ok (.iconst 1, 1) := by decide +kernel
theorem dX12_ofStone_25 : decode cX12_ofStone 25 = .ok (.if_icmp .ne 12, 3) := by decide +kernel
theorem dX12_ofStone_28 : decode cX12_ofStone 28 = .ok (.aload_n 0, 1) := by decide +kernel
theorem dX12_ofStone_29 : decode cX12_ofStone 29 = .ok (.getfield 22, 3) := by decide +kernel
theorem dX12_ofStone_32 : decode cX12_ofStone 32 = .ok (.iload_n 1, 1) := by decide +kernel
theorem dX12_ofStone_33 : decode cX12_ofStone 33 = .ok (.iaload, 1) := by decide +kernel
theorem dX12_ofStone_34 : decode cX12_ofStone 34 = .ok (.goto 19, 3) := by decide +kernel
theorem dX12_ofStone_37 : decode cX12_ofStone 37 = .ok (.iload_n 2, 1) := by decide +kernel
theorem dX12_ofStone_38 : decode cX12_ofStone 38 = .ok (.iconst 2, 1) := by decide +kernel
theorem dX12_ofStone_39 : decode cX12_ofStone 39 = .ok (.if_icmp .ne 12, 3) := by decide +kernel
theorem dX12_ofStone_42 : decode cX12_ofStone 42 = .ok (.aload_n 0, 1) := by decide +kernel
theorem dX12_ofStone_43 : decode cX12_ofStone 43 = .ok (.getfield 25, 3) := by decide +kernel
theorem dX12_ofStone_46 : decode cX12_ofStone 46 = .ok (.iload_n 1, 1) := by decide +kernel
theorem dX12_ofStone_47 : decode cX12_ofStone 47 = .ok (.iaload, 1) := by decide +kernel
theorem dX12_ofStone_48 : decode cX12_ofStone 48 = .ok (.goto 5, 3) := by decide +kernel
theorem dX12_ofStone_51 : decode cX12_ofStone 51 = .ok (.bipush (-2), 2) := by decide +kernel
theorem dX12_ofStone_53 : decode cX12_ofStone 53 = .ok (.ireturn, 1) := by decide +kernel
theorem dX12_month_0 : decode cX12_month 0 = .ok (.iload_n 1, 1) := by decide +kernel
theorem dX12_month_1 : decode cX12_month 1 = .ok (.invokestatic 123, 3) := by decide +kernel
theorem dX12_month_4 : decode cX12_month 4 = .ok (.ifCond .ne 5, 3) := by decide +kernel
theorem dX12_month_7 : decode cX12_month 7 = .ok (.iconst (-1), 1) := by decide +kernel
theorem dX12_month_8 : decode cX12_month 8 = .ok (.ireturn, 1) := by decide +kernel
theorem dX12_month_9 : decode cX12_month 9 = .ok (.iload_n 2, 1) := by decide +kernel
theorem dX12_month_10 : decode cX12_month 10 = .ok (.iconst 0, 1) := by decide +kernel
theorem dX12_month_11 : decode cX12_month 11 = .ok (.bipush 9, 2) := by decide +kernel
theorem dX12_month_13 : decode cX12_month 13 = .ok (.invokestatic 68, 3) := by decide +kernel
theorem dX12_month_16 : decode cX12_month 16 = .ok (.ifCond .eq 13, 3) := by decide +kernel
theorem dX12_month_19 : decode cX12_month 19 = .ok (.iload_n 3, 1) := by decide +kernel
theorem dX12_month_20 : decode cX12_month 20 = .ok (.iconst 0, 1) := by decide +kernel
theorem dX12_month_21 : decode cX12_month 21 = .ok (.bipush 9, 2) := by decide +kernel
theorem dX12_month_23 : decode cX12_month 23 = .ok (.invokestatic 68, 3) := by decide +kernel
theorem dX12_month_26 : decode cX12_month 26 = .ok (.ifCond .ne 6, 3) := by decide +kernel
theorem dX12_month_29 : decode cX12_month 29 = .ok (.bipush (-2), 2) := by decide +kernel
theorem dX12_month_31 : decode cX12_month 31 = .ok (.ireturn, 1) := by decide +kernel
theorem dX12_month_32 : decode cX12_month 32 = .ok (.aload_n 0, 1) := by decide +kernel
theorem dX12_month_33 : decode cX12_month 33 = .ok (.invokevirtual 78, 3) := by decide +kernel
theorem dX12_month_36 : decode cX12_month 36 = .ok (.ifCond .ne 6, 3) := by decide +kernel
theorem dX12_month_39 : decode cX12_month 39 = .ok (.bipush (-3), 2) := by decide +kernel
theorem dX12_month_41 : decode cX12_month 41 = .ok (.ireturn, 1) := by decide +kernel
theorem dX12_month_42 : decode cX12_month 42 = .ok (.bipush 10, 2) := by decide +kernel
theorem dX12_month_44 : decode cX12_month 44 = .ok (.aload_n 0, 1) := by decide +kernel
theorem dX12_month_45 : decode cX12_month 45 = .ok (.getfield 28, 3) := by decide +kernel
theorem dX12_month_48 : decode cX12_month 48 = .ok (.iload_n 1, 1) := by decide +kernel
theorem dX12_month_49 : decode cX12_month 49 = .ok (.iaload, 1) := by decide +kernel
theorem dX12_month_50 : decode cX12_month 50 = .ok (.imul, 1) := by decide +kernel
theorem dX12_month_51 : decode cX12_month 51 = .ok (.aload_n 0, 1) := by decide +kernel
theorem dX12_month_52 : decode cX12_month 52 = .ok (.getfield 31, 3) := by decide +kernel
theorem dX12_month_55 : decode cX12_month 55 = .ok (.iload_n 1, 1) := by decide +kernel
theorem dX12_month_56 : decode cX12_month 56 = .ok (.iaload, 1) := by decide +kernel
theorem dX12_month_57 : decode cX12_month 57 = .ok (.iadd, 1) := by decide +kernel
theorem dX12_month_58 : decode cX12_month 58 = .ok (.istore 4, 2) := by decide +kernel
theorem dX12_month_60 : decode cX12_month 60 = .ok (.aload_n 0, 1) := by decide +kernel
theorem dX12_month_61 : decode cX12_month 61 = .ok (.getfield 28, 3) := by decide +kernel
theorem dX12_month_64 : decode cX12_month 64 = .ok (.iload_n 1, 1) := by decide +kernel
theorem dX12_month_65 : decode cX12_month 65 = .ok (.iload_n 2, 1) := by decide +kernel
theorem dX12_month_66 : decode cX12_month 66 = .ok (.iastore, 1) := by decide +kernel
theorem dX12_month_67 : decode cX12_month 67 = .ok (.aload_n 0, 1) := by decide +kernel
theorem dX12_month_68 : decode cX12_month 68 = .ok (.getfield 31, 3) := by decide +kernel
theorem dX12_month_71 : decode cX12_month 71 = .ok (.iload_n 1, 1) := by decide +kernel
theorem dX12_month_72 : decode cX12_month 72 = .ok (.iload_n 3, 1) := by decide +kernel
theorem dX12_month_73 : decode cX12_month 73 = .ok (.iastore, 1) := by decide +kernel
theorem dX12_month_74 : decode cX12_month 74 = .ok (.iload 4, 2) := by decide +kernel
theorem dX12_month_76 : decode cX12_month 76 = .ok (.ireturn, 1) := by decide +kernel
theorem dX12_lift_0 : decode cX12_lift 0 = .ok (.aload_n 0, 1) := by decide +kernel
theorem dX12_lift_1 : decode cX12_lift 1 = .ok (.iload_n 1, 1) := by decide +kernel
theorem dX12_lift_2 : decode cX12_lift 2 = .ok (.invokevirtual 120, 3) := by decide +kernel
theorem dX12_lift_5 : decode cX12_lift 5 = .ok (.ifCond .ne 5, 3) := by decide +kernel
theorem dX12_lift_8 : decode cX12_lift 8 = .ok (.iconst (-1), 1) := by decide +kernel
theorem dX12_lift_9 : decode cX12_lift 9 = .ok (.ireturn, 1) := by decide +kernel
theorem dX12_lift_10 : decode cX12_lift 10 = .ok (.iload_n 2, 1) := by decide +kernel
theorem dX12_lift_11 : decode cX12_lift 11 = .ok (.iconst 0, 1) := by decide +kernel
theorem dX12_lift_12 : decode cX12_lift 12 = .ok (.bipush 99, 2) := by decide +kernel
theorem dX12_lift_14 : decode cX12_lift 14 = .ok (.invokestatic 68, 3) := by decide +kernel
theorem dX12_lift_17 : decode cX12_lift 17 = .ok (.ifCond .ne 6, 3) := by decide +kernel
theorem dX12_lift_20 : decode cX12_lift 20 = .ok (.bipush (-2), 2) := by decide +kernel
theorem dX12_lift_22 : decode cX12_lift 22 = .ok (.ireturn, 1) := by decide +kernel
theorem dX12_lift_23 : decode cX12_lift 23 = .ok (.aload_n 0, 1) := by decide +kernel
theorem dX12_lift_24 : decode cX12_lift 24 = .ok (.getfield 25, 3) := by decide +kernel
theorem dX12_lift_27 : decode cX12_lift 27 = .ok (.iload_n 1, 1) := by decide +kernel
theorem dX12_lift_28 : decode cX12_lift 28 = .ok (.iaload, 1) := by decide +kernel
theorem dX12_lift_29 : decode cX12_lift 29 = .ok (.istore_n 3, 1) := by decide +kernel
theorem dX12_lift_30 : decode cX12_lift 30 = .ok (.aload_n 0, 1) := by decide +kernel
theorem dX12_lift_31 : decode cX12_lift 31 = .ok (.getfield 25, 3) := by decide +kernel
theorem dX12_lift_34 : decode cX12_lift 34 = .ok (.iload_n 1, 1) := by decide +kernel
theorem dX12_lift_35 : decode cX12_lift 35 = .ok (.iload_n 2, 1) := by decide +kernel
theorem dX12_lift_36 : decode cX12_lift 36 = .ok (.iastore, 1) := by decide +kernel
theorem dX12_lift_37 : decode cX12_lift 37 = .ok (.iload_n 3, 1) := by decide +kernel
theorem dX12_lift_38 : decode cX12_lift 38 = .ok (.ireturn, 1) := by decide +kernel
theorem dX12_heightAs_0 : decode cX12_heightAs 0 = .ok (.bipush 10, 2) := by decide +kernel
theorem dX12_heightAs_2 : decode cX12_heightAs 2 = .ok (.aload_n 0, 1) := by decide +kernel
theorem dX12_heightAs_3 : decode cX12_heightAs 3 = .ok (.getfield 22, 3) := by decide +kernel
theorem dX12_heightAs_6 : decode cX12_heightAs 6 = .ok (.iload_n 1, 1) := by decide +kernel
theorem dX12_heightAs_7 : decode cX12_heightAs 7 = .ok (.iaload, 1) := by decide +kernel
theorem dX12_heightAs_8 : decode cX12_heightAs 8 = .ok (.imul, 1) := by decide +kernel
theorem dX12_heightAs_9 : decode cX12_heightAs 9 = .ok (.aload_n 0, 1) := by decide +kernel
theorem dX12_heightAs_10 : decode cX12_heightAs 10 = .ok (.getfield 25, 3) := by decide +kernel
theorem dX12_heightAs_13 : decode cX12_heightAs 13 = .ok (.iload_n 1, 1) := by decide +kernel
theorem dX12_heightAs_14 : decode cX12_heightAs 14 = .ok (.iaload, 1) := by decide +kernel
theorem dX12_heightAs_15 : decode cX12_heightAs 15 = .ok (.iadd, 1) := by decide +kernel
theorem dX12_heightAs_16 : decode cX12_heightAs 16 = .ok (.istore 4, 2) := by decide +kernel
theorem dX12_heightAs_18 : decode cX12_heightAs 18 = .ok (.iload 4, 2) := by decide +kernel
theorem dX12_heightAs_20 : decode cX12_heightAs 20 = .ok (.iload_n 2, 1) := by decide +kernel
theorem dX12_heightAs_21 : decode cX12_heightAs 21 = .ok (.ifCond .le 14, 3) := by decide +kernel
theorem dX12_heightAs_24 : decode cX12_heightAs 24 = .ok (.iconst 3, 1) := by decide +kernel
theorem dX12_heightAs_25 : decode cX12_heightAs 25 = .ok (.aload_n 0, 1) := by decide +kernel
theorem dX12_heightAs_26 : decode cX12_heightAs 26 = .ok (.getfield 28, 3) := by decide +kernel
theorem dX12_heightAs_29 : decode cX12_heightAs 29 = .ok (.iload_n 3, 1) := by decide +kernel
theorem dX12_heightAs_30 : decode cX12_heightAs 30 = .ok (.iaload, 1) := by decide +kernel
theorem dX12_heightAs_31 : decode cX12_heightAs 31 = .ok (.imul, 1) := by decide +kernel
theorem dX12_heightAs_32 : decode cX12_heightAs 32 = .ok (.goto 4, 3) := by decide +kernel
theorem dX12_heightAs_35 : decode cX12_heightAs 35 = .ok (.iconst 0, 1) := by decide +kernel
theorem dX12_heightAs_36 : decode cX12_heightAs 36 = .ok (.iadd, 1) := by decide +kernel
theorem dX12_heightAs_37 : decode cX12_heightAs 37 = .ok (.istore 4, 2) := by decide +kernel
theorem dX12_heightAs_39 : decode cX12_heightAs 39 = .ok (.iload_n 2, 1) := by decide +kernel
theorem dX12_heightAs_40 : decode cX12_heightAs 40 = .ok (.iconst 2, 1) := by decide +kernel
theorem dX12_heightAs_41 : decode cX12_heightAs 41 = .ok (.if_icmp .ne 17, 3) := by decide +kernel
theorem dX12_heightAs_44 : decode cX12_heightAs 44 = .ok (.iload 4, 2) := by decide +kernel
theorem dX12_heightAs_46 : decode cX12_heightAs 46 = .ok (.iconst 2, 1) := by decide +kernel
theorem dX12_heightAs_47 : decode cX12_heightAs 47 = .ok (.aload_n 0, 1) := by decide +kernel
theorem dX12_heightAs_48 : decode cX12_heightAs 48 = .ok (.getfield 31, 3) := by decide +kernel
theorem dX12_heightAs_51 : decode cX12_heightAs 51 = .ok (.iload_n 3, 1) := by decide +kernel
theorem dX12_heightAs_52 : decode cX12_heightAs 52 = .ok (.iaload, 1) := by decide +kernel
theorem dX12_heightAs_53 : decode cX12_heightAs 53 = .ok (.imul, 1) := by decide +kernel
theorem dX12_heightAs_54 : decode cX12_heightAs 54 = .ok (.iadd, 1) := by decide +kernel
theorem dX12_heightAs_55 : decode cX12_heightAs 55 = .ok (.goto 5, 3) := by decide +kernel
theorem dX12_heightAs_58 : decode cX12_heightAs 58 = .ok (.iload 4, 2) := by decide +kernel
theorem dX12_heightAs_60 : decode cX12_heightAs 60 = .ok (.ireturn, 1) := by decide +kernel
theorem dX12_heightOf_0 : decode cX12_heightOf 0 = .ok (.aload_n 0, 1) := by decide +kernel
theorem dX12_heightOf_1 : decode cX12_heightOf 1 = .ok (.iload_n 1, 1) := by decide +kernel
theorem dX12_heightOf_2 : decode cX12_heightOf 2 = .ok (.aload_n 0, 1) := by decide +kernel
theorem dX12_heightOf_3 : decode cX12_heightOf 3 = .ok (.getfield 19, 3) := by decide +kernel
theorem dX12_heightOf_6 : decode cX12_heightOf 6 = .ok (.iload_n 1, 1) := by decide +kernel
theorem dX12_heightOf_7 : decode cX12_heightOf 7 = .ok (.iaload, 1) := by decide +kernel
theorem dX12_heightOf_8 : decode cX12_heightOf 8 = .ok (.iload_n 2, 1) := by decide +kernel
theorem dX12_heightOf_9 : decode cX12_heightOf 9 = .ok (.invokevirtual 126, 3) := by decide +kernel
theorem dX12_heightOf_12 : decode cX12_heightOf 12 = .ok (.ireturn, 1) := by decide +kernel
theorem dX12_height_0 : decode cX12_height 0 = .ok (.aload_n 0, 1) := by decide +kernel
theorem dX12_height_1 : decode cX12_height 1 = .ok (.iload_n 1, 1) := by decide +kernel
theorem dX12_height_2 : decode cX12_height 2 = .ok (.invokevirtual 120, 3) := by decide +kernel
theorem dX12_height_5 : decode cX12_height 5 = .ok (.ifCond .eq 19, 3) := by decide +kernel
theorem dX12_height_8 : decode cX12_height 8 = .ok (.iload_n 2, 1) := by decide +kernel
theorem dX12_height_9 : decode cX12_height 9 = .ok (.invokestatic 123, 3) := by decide +kernel
theorem dX12_height_12 : decode cX12_height 12 = .ok (.ifCond .eq 12, 3) := by decide +kernel
theorem dX12_height_15 : decode cX12_height 15 = .ok (.aload_n 0, 1) := by decide +kernel
theorem dX12_height_16 : decode cX12_height 16 = .ok (.iload_n 1, 1) := by decide +kernel
theorem dX12_height_17 : decode cX12_height 17 = .ok (.iload_n 2, 1) := by decide +kernel
theorem dX12_height_18 : decode cX12_height 18 = .ok (.invokevirtual 129, 3) := by decide +kernel
theorem dX12_height_21 : decode cX12_height 21 = .ok (.goto 4, 3) := by decide +kernel
theorem dX12_height_24 : decode cX12_height 24 = .ok (.iconst (-1), 1) := by decide +kernel
theorem dX12_height_25 : decode cX12_height 25 = .ok (.ireturn, 1) := by decide +kernel
theorem dX12_rises_0 : decode cX12_rises 0 = .ok (.aload_n 0, 1) := by decide +kernel
theorem dX12_rises_1 : decode cX12_rises 1 = .ok (.iload_n 1, 1) := by decide +kernel
theorem dX12_rises_2 : decode cX12_rises 2 = .ok (.invokevirtual 120, 3) := by decide +kernel
theorem dX12_rises_5 : decode cX12_rises 5 = .ok (.ifCond .ne 5, 3) := by decide +kernel
theorem dX12_rises_8 : decode cX12_rises 8 = .ok (.iconst (-1), 1) := by decide +kernel
theorem dX12_rises_9 : decode cX12_rises 9 = .ok (.ireturn, 1) := by decide +kernel
theorem dX12_rises_10 : decode cX12_rises 10 = .ok (.iload_n 2, 1) := by decide +kernel
theorem dX12_rises_11 : decode cX12_rises 11 = .ok (.iconst 0, 1) := by decide +kernel
theorem dX12_rises_12 : decode cX12_rises 12 = .ok (.iconst 1, 1) := by decide +kernel
theorem dX12_rises_13 : decode cX12_rises 13 = .ok (.invokestatic 68, 3) := by decide +kernel
theorem dX12_rises_16 : decode cX12_rises 16 = .ok (.ifCond .ne 6, 3) := by decide +kernel
theorem dX12_rises_19 : decode cX12_rises 19 = .ok (.bipush (-2), 2) := by decide +kernel
theorem dX12_rises_21 : decode cX12_rises 21 = .ok (.ireturn, 1) := by decide +kernel
theorem dX12_rises_22 : decode cX12_rises 22 = .ok (.iconst 0, 1) := by decide +kernel
theorem dX12_rises_23 : decode cX12_rises 23 = .ok (.istore_n 3, 1) := by decide +kernel
theorem dX12_rises_24 : decode cX12_rises 24 = .ok (.iconst 1, 1) := by decide +kernel
theorem dX12_rises_25 : decode cX12_rises 25 = .ok (.istore 4, 2) := by decide +kernel
theorem dX12_rises_27 : decode cX12_rises 27 = .ok (.iload 4, 2) := by decide +kernel
theorem dX12_rises_29 : decode cX12_rises 29 = .ok (.bipush 12, 2) := by decide +kernel
theorem dX12_rises_31 : decode cX12_rises 31 = .ok (.if_icmp .ge 72, 3) := by decide +kernel
theorem dX12_rises_34 : decode cX12_rises 34 = .ok (.iload_n 2, 1) := by decide +kernel
theorem dX12_rises_35 : decode cX12_rises 35 = .ok (.ifCond .ne 27, 3) := by decide +kernel
theorem dX12_rises_38 : decode cX12_rises 38 = .ok (.aload_n 0, 1) := by decide +kernel
theorem dX12_rises_39 : decode cX12_rises 39 = .ok (.iload_n 1, 1) := by decide +kernel
theorem dX12_rises_40 : decode cX12_rises 40 = .ok (.iload 4, 2) := by decide +kernel
theorem dX12_rises_42 : decode cX12_rises 42 = .ok (.invokevirtual 129, 3) := by decide +kernel
theorem dX12_rises_45 : decode cX12_rises 45 = .ok (.aload_n 0, 1) := by decide +kernel
theorem dX12_rises_46 : decode cX12_rises 46 = .ok (.iload_n 1, 1) := by decide +kernel
theorem dX12_rises_47 : decode cX12_rises 47 = .ok (.iload_n 3, 1) := by decide +kernel
theorem dX12_rises_48 : decode cX12_rises 48 = .ok (.invokevirtual 129, 3) := by decide +kernel
theorem dX12_rises_51 : decode cX12_rises 51 = .ok (.if_icmp .le 7, 3) := by decide +kernel
theorem dX12_rises_54 : decode cX12_rises 54 = .ok (.iconst 1, 1) := by decide +kernel
theorem dX12_rises_55 : decode cX12_rises 55 = .ok (.goto 28, 3) := by decide +kernel
theorem dX12_rises_58 : decode cX12_rises 58 = .ok (.iconst 0, 1) := by decide +kernel
theorem dX12_rises_59 : decode cX12_rises 59 = .ok (.goto 24, 3) := by decide +kernel
theorem dX12_rises_62 : decode cX12_rises 62 = .ok (.aload_n 0, 1) := by decide +kernel
theorem dX12_rises_63 : decode cX12_rises 63 = .ok (.iload_n 1, 1) := by decide +kernel
theorem dX12_rises_64 : decode cX12_rises 64 = .ok (.iload 4, 2) := by decide +kernel
theorem dX12_rises_66 : decode cX12_rises 66 = .ok (.invokevirtual 129, 3) := by decide +kernel
theorem dX12_rises_69 : decode cX12_rises 69 = .ok (.aload_n 0, 1) := by decide +kernel
theorem dX12_rises_70 : decode cX12_rises 70 = .ok (.iload_n 1, 1) := by decide +kernel
theorem dX12_rises_71 : decode cX12_rises 71 = .ok (.iload_n 3, 1) := by decide +kernel
theorem dX12_rises_72 : decode cX12_rises 72 = .ok (.invokevirtual 129, 3) := by decide +kernel
theorem dX12_rises_75 : decode cX12_rises 75 = .ok (.if_icmp .ge 7, 3) := by decide +kernel
theorem dX12_rises_78 : decode cX12_rises 78 = .ok (.iconst 1, 1) := by decide +kernel
theorem dX12_rises_79 : decode cX12_rises 79 = .ok (.goto 4, 3) := by decide +kernel
theorem dX12_rises_82 : decode cX12_rises 82 = .ok (.iconst 0, 1) := by decide +kernel
theorem dX12_rises_83 : decode cX12_rises 83 = .ok (.istore 5, 2) := by decide +kernel
theorem dX12_rises_85 : decode cX12_rises 85 = .ok (.iload 5, 2) := by decide +kernel
theorem dX12_rises_87 : decode cX12_rises 87 = .ok (.ifCond .eq 8, 3) := by decide +kernel
theorem dX12_rises_90 : decode cX12_rises 90 = .ok (.iload 4, 2) := by decide +kernel
theorem dX12_rises_92 : decode cX12_rises 92 = .ok (.goto 4, 3) := by decide +kernel
theorem dX12_rises_95 : decode cX12_rises 95 = .ok (.iload_n 3, 1) := by decide +kernel
theorem dX12_rises_96 : decode cX12_rises 96 = .ok (.istore_n 3, 1) := by decide +kernel
theorem dX12_rises_97 : decode cX12_rises 97 = .ok (.iinc 4 1, 3) := by decide +kernel
theorem dX12_rises_100 : decode cX12_rises 100 = .ok (.goto (-73), 3) := by decide +kernel
theorem dX12_rises_103 : decode cX12_rises 103 = .ok (.iload_n 3, 1) := by decide +kernel
theorem dX12_rises_104 : decode cX12_rises 104 = .ok (.ireturn, 1) := by decide +kernel
theorem dX12_beside_0 : decode cX12_beside 0 = .ok (.iload_n 1, 1) := by decide +kernel
theorem dX12_beside_1 : decode cX12_beside 1 = .ok (.aload_n 0, 1) := by decide +kernel
theorem dX12_beside_2 : decode cX12_beside 2 = .ok (.getfield 75, 3) := by decide +kernel
theorem dX12_beside_5 : decode cX12_beside 5 = .ok (.idiv, 1) := by decide +kernel
theorem dX12_beside_6 : decode cX12_beside 6 = .ok (.istore_n 3, 1) := by decide +kernel
theorem dX12_beside_7 : decode cX12_beside 7 = .ok (.iload_n 1, 1) := by decide +kernel
theorem dX12_beside_8 : decode cX12_beside 8 = .ok (.aload_n 0, 1) := by decide +kernel
theorem dX12_beside_9 : decode cX12_beside 9 = .ok (.getfield 75, 3) := by decide +kernel
theorem dX12_beside_12 : decode cX12_beside 12 = .ok (.irem, 1) := by decide +kernel
theorem dX12_beside_13 : decode cX12_beside 13 = .ok (.istore 4, 2) := by decide +kernel
theorem dX12_beside_15 : decode cX12_beside 15 = .ok (.iload_n 2, 1) := by decide +kernel
theorem dX12_beside_16 : decode cX12_beside 16 = .ok (.ifCond .ne 19, 3) := by decide +kernel
theorem dX12_beside_19 : decode cX12_beside 19 = .ok (.iload_n 3, 1) := by decide +kernel
theorem dX12_beside_20 : decode cX12_beside 20 = .ok (.ifCond .le 12, 3) := by decide +kernel
theorem dX12_beside_23 : decode cX12_beside 23 = .ok (.iload_n 1, 1) := by decide +kernel
theorem dX12_beside_24 : decode cX12_beside 24 = .ok (.aload_n 0, 1) := by decide +kernel
theorem dX12_beside_25 : decode cX12_beside 25 = .ok (.getfield 75, 3) := by decide +kernel
theorem dX12_beside_28 : decode cX12_beside 28 = .ok (.isub, 1) := by decide +kernel
theorem dX12_beside_29 : decode cX12_beside 29 = .ok (.goto 5, 3) := by decide +kernel
theorem dX12_beside_32 : decode cX12_beside 32 = .ok (.bipush (-9), 2) := by decide +kernel
theorem dX12_beside_34 : decode cX12_beside 34 = .ok (.ireturn, 1) := by decide +kernel
theorem dX12_beside_35 : decode cX12_beside 35 = .ok (.iload_n 2, 1) := by decide +kernel
theorem dX12_beside_36 : decode cX12_beside 36 = .ok (.iconst 1, 1) := by decide +kernel
theorem dX12_beside_37 : decode cX12_beside 37 = .ok (.if_icmp .ne 17, 3) := by decide +kernel
theorem dX12_beside_40 : decode cX12_beside 40 = .ok (.iload 4, 2) := by decide +kernel
theorem dX12_beside_42 : decode cX12_beside 42 = .ok (.ifCond .le 9, 3) := by decide +kernel
theorem dX12_beside_45 : decode cX12_beside 45 = .ok (.iload_n 1, 1) := by decide +kernel
theorem dX12_beside_46 : decode cX12_beside 46 = .ok (.iconst 1, 1) := by decide +kernel
theorem dX12_beside_47 : decode cX12_beside 47 = .ok (.isub, 1) := by decide +kernel
theorem dX12_beside_48 : decode cX12_beside 48 = .ok (.goto 5, 3) := by decide +kernel
theorem dX12_beside_51 : decode cX12_beside 51 = .ok (.bipush (-9), 2) := by decide +kernel
theorem dX12_beside_53 : decode cX12_beside 53 = .ok (.ireturn, 1) := by decide +kernel
theorem dX12_beside_54 : decode cX12_beside 54 = .ok (.iload_n 2, 1) := by decide +kernel
theorem dX12_beside_55 : decode cX12_beside 55 = .ok (.iconst 2, 1) := by decide +kernel
theorem dX12_beside_56 : decode cX12_beside 56 = .ok (.if_icmp .ne 23, 3) := by decide +kernel
theorem dX12_beside_59 : decode cX12_beside 59 = .ok (.iload 4, 2) := by decide +kernel
theorem dX12_beside_61 : decode cX12_beside 61 = .ok (.aload_n 0, 1) := by decide +kernel
theorem dX12_beside_62 : decode cX12_beside 62 = .ok (.getfield 75, 3) := by decide +kernel
theorem dX12_beside_65 : decode cX12_beside 65 = .ok (.iconst 1, 1) := by decide +kernel
theorem dX12_beside_66 : decode cX12_beside 66 = .ok (.isub, 1) := by decide +kernel
theorem dX12_beside_67 : decode cX12_beside 67 = .ok (.if_icmp .ge 9, 3) := by decide +kernel
theorem dX12_beside_70 : decode cX12_beside 70 = .ok (.iload_n 1, 1) := by decide +kernel
theorem dX12_beside_71 : decode cX12_beside 71 = .ok (.iconst 1, 1) := by decide +kernel
theorem dX12_beside_72 : decode cX12_beside 72 = .ok (.iadd, 1) := by decide +kernel
theorem dX12_beside_73 : decode cX12_beside 73 = .ok (.goto 5, 3) := by decide +kernel
theorem dX12_beside_76 : decode cX12_beside 76 = .ok (.bipush (-9), 2) := by decide +kernel
theorem dX12_beside_78 : decode cX12_beside 78 = .ok (.ireturn, 1) := by decide +kernel
theorem dX12_beside_79 : decode cX12_beside 79 = .ok (.iload_n 3, 1) := by decide +kernel
theorem dX12_beside_80 : decode cX12_beside 80 = .ok (.aload_n 0, 1) := by decide +kernel
theorem dX12_beside_81 : decode cX12_beside 81 = .ok (.getfield 72, 3) := by decide +kernel
theorem dX12_beside_84 : decode cX12_beside 84 = .ok (.iconst 1, 1) := by decide +kernel
theorem dX12_beside_85 : decode cX12_beside 85 = .ok (.isub, 1) := by decide +kernel
theorem dX12_beside_86 : decode cX12_beside 86 = .ok (.if_icmp .ge 12, 3) := by decide +kernel
theorem dX12_beside_89 : decode cX12_beside 89 = .ok (.iload_n 1, 1) := by decide +kernel
theorem dX12_beside_90 : decode cX12_beside 90 = .ok (.aload_n 0, 1) := by decide +kernel
theorem dX12_beside_91 : decode cX12_beside 91 = .ok (.getfield 75, 3) := by decide +kernel
theorem dX12_beside_94 : decode cX12_beside 94 = .ok (.iadd, 1) := by decide +kernel
theorem dX12_beside_95 : decode cX12_beside 95 = .ok (.goto 5, 3) := by decide +kernel
theorem dX12_beside_98 : decode cX12_beside 98 = .ok (.bipush (-9), 2) := by decide +kernel
theorem dX12_beside_100 : decode cX12_beside 100 = .ok (.ireturn, 1) := by decide +kernel
theorem dX12_size_0 : decode cX12_size 0 = .ok (.iload_n 0, 1) := by decide +kernel
theorem dX12_size_1 : decode cX12_size 1 = .ok (.ifCond .ge 8, 3) := by decide +kernel
theorem dX12_size_4 : decode cX12_size 4 = .ok (.iload_n 0, 1) := by decide +kernel
theorem dX12_size_5 : decode cX12_size 5 = .ok (.ineg, 1) := by decide +kernel
theorem dX12_size_6 : decode cX12_size 6 = .ok (.goto 4, 3) := by decide +kernel
theorem dX12_size_9 : decode cX12_size 9 = .ok (.iload_n 0, 1) := by decide +kernel
theorem dX12_size_10 : decode cX12_size 10 = .ok (.ireturn, 1) := by decide +kernel
theorem dX12_isStep_0 : decode cX12_isStep 0 = .ok (.iload_n 3, 1) := by decide +kernel
theorem dX12_isStep_1 : decode cX12_isStep 1 = .ok (.istore 6, 2) := by decide +kernel
theorem dX12_isStep_3 : decode cX12_isStep 3 = .ok (.iload 6, 2) := by decide +kernel
theorem dX12_isStep_5 : decode cX12_isStep 5 = .ok (.iload 4, 2) := by decide +kernel
theorem dX12_isStep_7 : decode cX12_isStep 7 = .ok (.if_icmp .gt 34, 3) := by decide +kernel
theorem dX12_isStep_10 : decode cX12_isStep 10 = .ok (.aload_n 0, 1) := by decide +kernel
theorem dX12_isStep_11 : decode cX12_isStep 11 = .ok (.iload_n 1, 1) := by decide +kernel
theorem dX12_isStep_12 : decode cX12_isStep 12 = .ok (.iload 6, 2) := by decide +kernel
theorem dX12_isStep_14 : decode cX12_isStep 14 = .ok (.invokevirtual 129, 3) := by decide +kernel
theorem dX12_isStep_17 : decode cX12_isStep 17 = .ok (.aload_n 0, 1) := by decide +kernel
theorem dX12_isStep_18 : decode cX12_isStep 18 = .ok (.iload_n 2, 1) := by decide +kernel
theorem dX12_isStep_19 : decode cX12_isStep 19 = .ok (.iload 6, 2) := by decide +kernel
theorem dX12_isStep_21 : decode cX12_isStep 21 = .ok (.invokevirtual 129, 3) := by decide +kernel
theorem dX12_isStep_24 : decode cX12_isStep 24 = .ok (.isub, 1) := by decide +kernel
theorem dX12_isStep_25 : decode cX12_isStep 25 = .ok (.invokestatic 133, 3) := by decide +kernel
theorem dX12_isStep_28 : decode cX12_isStep 28 = .ok (.iload 5, 2) := by decide +kernel
theorem dX12_isStep_30 : decode cX12_isStep 30 = .ok (.if_icmp .le 5, 3) := by decide +kernel
theorem dX12_isStep_33 : decode cX12_isStep 33 = .ok (.iconst 0, 1) := by decide +kernel
theorem dX12_isStep_34 : decode cX12_isStep 34 = .ok (.ireturn, 1) := by decide +kernel
theorem dX12_isStep_35 : decode cX12_isStep 35 = .ok (.iinc 6 1, 3) := by decide +kernel
theorem dX12_isStep_38 : decode cX12_isStep 38 = .ok (.goto (-35), 3) := by decide +kernel
theorem dX12_isStep_41 : decode cX12_isStep 41 = .ok (.iconst 1, 1) := by decide +kernel
theorem dX12_isStep_42 : decode cX12_isStep 42 = .ok (.ireturn, 1) := by decide +kernel
theorem dX12_findFar_0 : decode cX12_findFar 0 = .ok (.iconst 0, 1) := by decide +kernel
theorem dX12_findFar_1 : decode cX12_findFar 1 = .ok (.istore 5, 2) := by decide +kernel
theorem dX12_findFar_3 : decode cX12_findFar 3 = .ok (.iload 5, 2) := by decide +kernel
theorem dX12_findFar_5 : decode cX12_findFar 5 = .ok (.aload_n 0, 1) := by decide +kernel
theorem dX12_findFar_6 : decode cX12_findFar 6 = .ok (.invokevirtual 78, 3) := by decide +kernel
theorem dX12_findFar_9 : decode cX12_findFar 9 = .ok (.if_icmp .ge 28, 3) := by decide +kernel
theorem dX12_findFar_12 : decode cX12_findFar 12 = .ok (.aload_n 0, 1) := by decide +kernel
theorem dX12_findFar_13 : decode cX12_findFar 13 = .ok (.getfield 40, 3) := by decide +kernel
theorem dX12_findFar_16 : decode cX12_findFar 16 = .ok (.iload 5, 2) := by decide +kernel
theorem dX12_findFar_18 : decode cX12_findFar 18 = .ok (.iload 5, 2) := by decide +kernel
theorem dX12_findFar_20 : decode cX12_findFar 20 = .ok (.iload_n 1, 1) := by decide +kernel
theorem dX12_findFar_21 : decode cX12_findFar 21 = .ok (.if_icmp .ne 7, 3) := by decide +kernel
theorem dX12_findFar_24 : decode cX12_findFar 24 = .ok (.iconst 0, 1) := by decide +kernel
theorem dX12_findFar_25 : decode cX12_findFar 25 = .ok (.goto 5, 3) := by decide +kernel
theorem dX12_findFar_28 : decode cX12_findFar 28 = .ok (.ldc 136, 2) := by decide +kernel
theorem dX12_findFar_30 : decode cX12_findFar 30 = .ok (.iastore, 1) := by decide +kernel
theorem dX12_findFar_31 : decode cX12_findFar 31 = .ok (.iinc 5 1, 3) := by decide +kernel
theorem dX12_findFar_34 : decode cX12_findFar 34 = .ok (.goto (-31), 3) := by decide +kernel
theorem dX12_findFar_37 : decode cX12_findFar 37 = .ok (.iconst 0, 1) := by decide +kernel
theorem dX12_findFar_38 : decode cX12_findFar 38 = .ok (.istore 5, 2) := by decide +kernel
theorem dX12_findFar_40 : decode cX12_findFar 40 = .ok (.iload 5, 2) := by decide +kernel
theorem dX12_findFar_42 : decode cX12_findFar 42 = .ok (.aload_n 0, 1) := by decide +kernel
theorem dX12_findFar_43 : decode cX12_findFar 43 = .ok (.invokevirtual 78, 3) := by decide +kernel
theorem dX12_findFar_46 : decode cX12_findFar 46 = .ok (.if_icmp .ge 109, 3) := by decide +kernel
theorem dX12_findFar_49 : decode cX12_findFar 49 = .ok (.iconst 0, 1) := by decide +kernel
theorem dX12_findFar_50 : decode cX12_findFar 50 = .ok (.istore 6, 2) := by decide +kernel
theorem dX12_findFar_52 : decode cX12_findFar 52 = .ok (.iload 6, 2) := by decide +kernel
theorem dX12_findFar_54 : decode cX12_findFar 54 = .ok (.aload_n 0, 1) := by decide +kernel
theorem dX12_findFar_55 : decode cX12_findFar 55 = .ok (.invokevirtual 78, 3) := by decide +kernel
theorem dX12_findFar_58 : decode cX12_findFar 58 = .ok (.if_icmp .ge 91, 3) := by decide +kernel
theorem dX12_findFar_61 : decode cX12_findFar 61 = .ok (.iconst 0, 1) := by decide +kernel
theorem dX12_findFar_62 : decode cX12_findFar 62 = .ok (.istore 7, 2) := by decide +kernel
theorem dX12_findFar_64 : decode cX12_findFar 64 = .ok (.iload 7, 2) := by decide +kernel
theorem dX12_findFar_66 : decode cX12_findFar 66 = .ok (.iconst 4, 1) := by decide +kernel
theorem dX12_findFar_67 : decode cX12_findFar 67 = .ok (.if_icmp .ge 76, 3) := by decide +kernel
theorem dX12_findFar_70 : decode cX12_findFar 70 = .ok (.aload_n 0, 1) := by decide +kernel
theorem dX12_findFar_71 : decode cX12_findFar 71 = .ok (.getfield 40, 3) := by decide +kernel
theorem dX12_findFar_74 : decode cX12_findFar 74 = .ok (.iload 6, 2) := by decide +kernel
theorem dX12_findFar_76 : decode cX12_findFar 76 = .ok (.iaload, 1) := by decide +kernel
theorem dX12_findFar_77 : decode cX12_findFar 77 = .ok (.iload 5, 2) := by decide +kernel
theorem dX12_findFar_79 : decode cX12_findFar 79 = .ok (.if_icmp .ne 64, 3) := by decide +kernel
theorem dX12_findFar_82 : decode cX12_findFar 82 = .ok (.aload_n 0, 1) := by decide +kernel
theorem dX12_findFar_83 : decode cX12_findFar 83 = .ok (.iload 6, 2) := by decide +kernel
theorem dX12_findFar_85 : decode cX12_findFar 85 = .ok (.iload 7, 2) := by decide +kernel
theorem dX12_findFar_87 : decode cX12_findFar 87 = .ok (.invokevirtual 137, 3) := by decide +kernel
theorem dX12_findFar_90 : decode cX12_findFar 90 = .ok (.istore 8, 2) := by decide +kernel
theorem dX12_findFar_92 : decode cX12_findFar 92 = .ok (.iload 8, 2) := by decide +kernel
theorem dX12_findFar_94 : decode cX12_findFar 94 = .ok (.bipush (-9), 2) := by decide +kernel
theorem dX12_findFar_96 : decode cX12_findFar 96 = .ok (.if_icmp .eq 41, 3) := by decide +kernel
theorem dX12_findFar_99 : decode cX12_findFar 99 = .ok (.aload_n 0, 1) := by decide +kernel
theorem dX12_findFar_100 : decode cX12_findFar 100 = .ok (.getfield 40, 3) := by decide +kernel
theorem dX12_findFar_103 : decode cX12_findFar 103 = .ok (.iload 8, 2) := by decide +kernel
theorem dX12_findFar_105 : decode cX12_findFar 105 = .ok (.iaload, 1) := by decide +kernel
theorem dX12_findFar_106 : decode cX12_findFar 106 = .ok (.ldc 136, 2) := by decide +kernel
theorem dX12_findFar_108 : decode cX12_findFar 108 = .ok (.if_icmp .ne 29, 3) := by decide +kernel
theorem dX12_findFar_111 : decode cX12_findFar 111 = .ok (.aload_n 0, 1) := by decide +kernel
theorem dX12_findFar_112 : decode cX12_findFar 112 = .ok (.iload 6, 2) := by decide +kernel
theorem dX12_findFar_114 : decode cX12_findFar 114 = .ok (.iload 8, 2) := by decide +kernel
theorem dX12_findFar_116 : decode cX12_findFar 116 = .ok (.iload_n 2, 1) := by decide +kernel
theorem dX12_findFar_117 : decode cX12_findFar 117 = .ok (.iload_n 3, 1) := by decide +kernel
theorem dX12_findFar_118 : decode cX12_findFar 118 = .ok (.iload 4, 2) := by decide +kernel
theorem dX12_findFar_120 : decode cX12_findFar 120 = .ok (.invokevirtual 140, 3) := by decide +kernel
theorem dX12_findFar_123 : decode cX12_findFar 123 = .ok (.ifCond .eq 14, 3) := by decide +kernel
theorem dX12_findFar_126 : decode cX12_findFar 126 = .ok (.aload_n 0, 1) := by decide +kernel
theorem dX12_findFar_127 : decode cX12_findFar 127 = .ok (.getfield 40, 3) := by decide +kernel
theorem dX12_findFar_130 : decode cX12_findFar 130 = .ok (.iload 8, 2) := by decide +kernel
theorem dX12_findFar_132 : decode cX12_findFar 132 = .ok (.iload 5, 2) := by decide +kernel
theorem dX12_findFar_134 : decode cX12_findFar 134 = .ok (.iconst 1, 1) := by decide +kernel
theorem dX12_findFar_135 : decode cX12_findFar 135 = .ok (.iadd, 1) := by decide +kernel
theorem dX12_findFar_136 : decode cX12_findFar 136 = .ok (.iastore, 1) := by decide +kernel
theorem dX12_findFar_137 : decode cX12_findFar 137 = .ok (.iinc 7 1, 3) := by decide +kernel
theorem dX12_findFar_140 : decode cX12_findFar 140 = .ok (.goto (-76), 3) := by decide +kernel
theorem dX12_findFar_143 : decode cX12_findFar 143 = .ok (.iinc 6 1, 3) := by decide +kernel
theorem dX12_findFar_146 : decode cX12_findFar 146 = .ok (.goto (-94), 3) := by decide +kernel
theorem dX12_findFar_149 : decode cX12_findFar 149 = .ok (.iinc 5 1, 3) := by decide +kernel
theorem dX12_findFar_152 : decode cX12_findFar 152 = .ok (.goto (-112), 3) := by decide +kernel
theorem dX12_findFar_155 : decode cX12_findFar 155 = .ok (.return_, 1) := by decide +kernel
theorem dX12_way_0 : decode cX12_way 0 = .ok (.aload_n 0, 1) := by decide +kernel
theorem dX12_way_1 : decode cX12_way 1 = .ok (.iload_n 1, 1) := by decide +kernel
theorem dX12_way_2 : decode cX12_way 2 = .ok (.invokevirtual 120, 3) := by decide +kernel
theorem dX12_way_5 : decode cX12_way 5 = .ok (.ifCond .eq 24, 3) := by decide +kernel
theorem dX12_way_8 : decode cX12_way 8 = .ok (.aload_n 0, 1) := by decide +kernel
theorem dX12_way_9 : decode cX12_way 9 = .ok (.iload_n 2, 1) := by decide +kernel
theorem dX12_way_10 : decode cX12_way 10 = .ok (.invokevirtual 120, 3) := by decide +kernel
theorem dX12_way_13 : decode cX12_way 13 = .ok (.ifCond .eq 16, 3) := by decide +kernel
theorem dX12_way_16 : decode cX12_way 16 = .ok (.iload_n 3, 1) := by decide +kernel
theorem dX12_way_17 : decode cX12_way 17 = .ok (.invokestatic 123, 3) := by decide +kernel
theorem dX12_way_20 : decode cX12_way 20 = .ok (.ifCond .eq 9, 3) := by decide +kernel
theorem dX12_way_23 : decode cX12_way 23 = .ok (.iload 5, 2) := by decide +kernel
theorem dX12_way_25 : decode cX12_way 25 = .ok (.iconst (-1), 1) := by decide +kernel
theorem dX12_way_26 : decode cX12_way 26 = .ok (.if_icmp .ge 5, 3) := by decide +kernel
theorem dX12_way_29 : decode cX12_way 29 = .ok (.iconst (-1), 1) := by decide +kernel
theorem dX12_way_30 : decode cX12_way 30 = .ok (.ireturn, 1) := by decide +kernel
theorem dX12_way_31 : decode cX12_way 31 = .ok (.iload 4, 2) := by decide +kernel
theorem dX12_way_33 : decode cX12_way 33 = .ok (.iconst 0, 1) := by decide +kernel
theorem dX12_way_34 : decode cX12_way 34 = .ok (.sipush 999, 3) := by decide +kernel
theorem dX12_way_37 : decode cX12_way 37 = .ok (.invokestatic 68, 3) := by decide +kernel
theorem dX12_way_40 : decode cX12_way 40 = .ok (.ifCond .ne 6, 3) := by decide +kernel
theorem dX12_way_43 : decode cX12_way 43 = .ok (.bipush (-2), 2) := by decide +kernel
theorem dX12_way_45 : decode cX12_way 45 = .ok (.ireturn, 1) := by decide +kernel
theorem dX12_way_46 : decode cX12_way 46 = .ok (.aload_n 0, 1) := by decide +kernel
theorem dX12_way_47 : decode cX12_way 47 = .ok (.iload_n 2, 1) := by decide +kernel
theorem dX12_way_48 : decode cX12_way 48 = .ok (.iload_n 3, 1) := by decide +kernel
theorem dX12_way_49 : decode cX12_way 49 = .ok (.iload_n 3, 1) := by decide +kernel
theorem dX12_way_50 : decode cX12_way 50 = .ok (.iload 4, 2) := by decide +kernel
theorem dX12_way_52 : decode cX12_way 52 = .ok (.invokevirtual 144, 3) := by decide +kernel
theorem dX12_way_55 : decode cX12_way 55 = .ok (.aload_n 0, 1) := by decide +kernel
theorem dX12_way_56 : decode cX12_way 56 = .ok (.getfield 40, 3) := by decide +kernel
theorem dX12_way_59 : decode cX12_way 59 = .ok (.iload_n 1, 1) := by decide +kernel
theorem dX12_way_60 : decode cX12_way 60 = .ok (.iaload, 1) := by decide +kernel
theorem dX12_way_61 : decode cX12_way 61 = .ok (.ldc 136, 2) := by decide +kernel
theorem dX12_way_63 : decode cX12_way 63 = .ok (.if_icmp .eq 14, 3) := by decide +kernel
theorem dX12_way_66 : decode cX12_way 66 = .ok (.iload 5, 2) := by decide +kernel
theorem dX12_way_68 : decode cX12_way 68 = .ok (.aload_n 0, 1) := by decide +kernel
theorem dX12_way_69 : decode cX12_way 69 = .ok (.getfield 40, 3) := by decide +kernel
theorem dX12_way_72 : decode cX12_way 72 = .ok (.iload_n 1, 1) := by decide +kernel
theorem dX12_way_73 : decode cX12_way 73 = .ok (.iaload, 1) := by decide +kernel
theorem dX12_way_74 : decode cX12_way 74 = .ok (.if_icmp .le 6, 3) := by decide +kernel
theorem dX12_way_77 : decode cX12_way 77 = .ok (.bipush (-9), 2) := by decide +kernel
theorem dX12_way_79 : decode cX12_way 79 = .ok (.ireturn, 1) := by decide +kernel
theorem dX12_way_80 : decode cX12_way 80 = .ok (.iload 5, 2) := by decide +kernel
theorem dX12_way_82 : decode cX12_way 82 = .ok (.iconst (-1), 1) := by decide +kernel
theorem dX12_way_83 : decode cX12_way 83 = .ok (.if_icmp .ne 10, 3) := by decide +kernel
theorem dX12_way_86 : decode cX12_way 86 = .ok (.aload_n 0, 1) := by decide +kernel
theorem dX12_way_87 : decode cX12_way 87 = .ok (.getfield 40, 3) := by decide +kernel
theorem dX12_way_90 : decode cX12_way 90 = .ok (.iload_n 1, 1) := by decide +kernel
theorem dX12_way_91 : decode cX12_way 91 = .ok (.iaload, 1) := by decide +kernel
theorem dX12_way_92 : decode cX12_way 92 = .ok (.ireturn, 1) := by decide +kernel
theorem dX12_way_93 : decode cX12_way 93 = .ok (.iload_n 1, 1) := by decide +kernel
theorem dX12_way_94 : decode cX12_way 94 = .ok (.istore 6, 2) := by decide +kernel
theorem dX12_way_96 : decode cX12_way 96 = .ok (.iconst 0, 1) := by decide +kernel
theorem dX12_way_97 : decode cX12_way 97 = .ok (.istore 7, 2) := by decide +kernel
theorem dX12_way_99 : decode cX12_way 99 = .ok (.iload 7, 2) := by decide +kernel
theorem dX12_way_101 : decode cX12_way 101 = .ok (.iload 5, 2) := by decide +kernel
theorem dX12_way_103 : decode cX12_way 103 = .ok (.if_icmp .ge 87, 3) := by decide +kernel
theorem dX12_way_106 : decode cX12_way 106 = .ok (.iconst 0, 1) := by decide +kernel
theorem dX12_way_107 : decode cX12_way 107 = .ok (.istore 8, 2) := by decide +kernel
theorem dX12_way_109 : decode cX12_way 109 = .ok (.aload_n 0, 1) := by decide +kernel
theorem dX12_way_110 : decode cX12_way 110 = .ok (.iload 6, 2) := by decide +kernel
theorem dX12_way_112 : decode cX12_way 112 = .ok (.iload 8, 2) := by decide +kernel
theorem dX12_way_114 : decode cX12_way 114 = .ok (.invokevirtual 137, 3) := by decide +kernel
theorem dX12_way_117 : decode cX12_way 117 = .ok (.bipush (-9), 2) := by decide +kernel
theorem dX12_way_119 : decode cX12_way 119 = .ok (.if_icmp .eq 49, 3) := by decide +kernel
theorem dX12_way_122 : decode cX12_way 122 = .ok (.aload_n 0, 1) := by decide +kernel
theorem dX12_way_123 : decode cX12_way 123 = .ok (.getfield 40, 3) := by decide +kernel
theorem dX12_way_126 : decode cX12_way 126 = .ok (.aload_n 0, 1) := by decide +kernel
theorem dX12_way_127 : decode cX12_way 127 = .ok (.iload 6, 2) := by decide +kernel
theorem dX12_way_129 : decode cX12_way 129 = .ok (.iload 8, 2) := by decide +kernel
theorem dX12_way_131 : decode cX12_way 131 = .ok (.invokevirtual 137, 3) := by decide +kernel
theorem dX12_way_134 : decode cX12_way 134 = .ok (.iaload, 1) := by decide +kernel
theorem dX12_way_135 : decode cX12_way 135 = .ok (.aload_n 0, 1) := by decide +kernel
theorem dX12_way_136 : decode cX12_way 136 = .ok (.getfield 40, 3) := by decide +kernel
theorem dX12_way_139 : decode cX12_way 139 = .ok (.iload 6, 2) := by decide +kernel
theorem dX12_way_141 : decode cX12_way 141 = .ok (.iaload, 1) := by decide +kernel
theorem dX12_way_142 : decode cX12_way 142 = .ok (.iconst 1, 1) := by decide +kernel
theorem dX12_way_143 : decode cX12_way 143 = .ok (.isub, 1) := by decide +kernel
theorem dX12_way_144 : decode cX12_way 144 = .ok (.if_icmp .ne 24, 3) := by decide +kernel
theorem dX12_way_147 : decode cX12_way 147 = .ok (.aload_n 0, 1) := by decide +kernel
theorem dX12_way_148 : decode cX12_way 148 = .ok (.iload 6, 2) := by decide +kernel
theorem dX12_way_150 : decode cX12_way 150 = .ok (.aload_n 0, 1) := by decide +kernel
theorem dX12_way_151 : decode cX12_way 151 = .ok (.iload 6, 2) := by decide +kernel
theorem dX12_way_153 : decode cX12_way 153 = .ok (.iload 8, 2) := by decide +kernel
theorem dX12_way_155 : decode cX12_way 155 = .ok (.invokevirtual 137, 3) := by decide +kernel
theorem dX12_way_158 : decode cX12_way 158 = .ok (.iload_n 3, 1) := by decide +kernel
theorem dX12_way_159 : decode cX12_way 159 = .ok (.iload_n 3, 1) := by decide +kernel
theorem dX12_way_160 : decode cX12_way 160 = .ok (.iload 4, 2) := by decide +kernel
theorem dX12_way_162 : decode cX12_way 162 = .ok (.invokevirtual 140, 3) := by decide +kernel
theorem dX12_way_165 : decode cX12_way 165 = .ok (.ifCond .ne 9, 3) := by decide +kernel
theorem dX12_way_168 : decode cX12_way 168 = .ok (.iinc 8 1, 3) := by decide +kernel
theorem dX12_way_171 : decode cX12_way 171 = .ok (.goto (-62), 3) := by decide +kernel
theorem dX12_way_174 : decode cX12_way 174 = .ok (.aload_n 0, 1) := by decide +kernel
theorem dX12_way_175 : decode cX12_way 175 = .ok (.iload 6, 2) := by decide +kernel
theorem dX12_way_177 : decode cX12_way 177 = .ok (.iload 8, 2) := by decide +kernel
theorem dX12_way_179 : decode cX12_way 179 = .ok (.invokevirtual 137, 3) := by decide +kernel
theorem dX12_way_182 : decode cX12_way 182 = .ok (.istore 6, 2) := by decide +kernel
theorem dX12_way_184 : decode cX12_way 184 = .ok (.iinc 7 1, 3) := by decide +kernel
theorem dX12_way_187 : decode cX12_way 187 = .ok (.goto (-88), 3) := by decide +kernel
theorem dX12_way_190 : decode cX12_way 190 = .ok (.iload 6, 2) := by decide +kernel
theorem dX12_way_192 : decode cX12_way 192 = .ok (.ireturn, 1) := by decide +kernel
theorem dX12_holds_0 : decode cX12_holds 0 = .ok (.aload_n 0, 1) := by decide +kernel
theorem dX12_holds_1 : decode cX12_holds 1 = .ok (.iload_n 1, 1) := by decide +kernel
theorem dX12_holds_2 : decode cX12_holds 2 = .ok (.invokevirtual 120, 3) := by decide +kernel
theorem dX12_holds_5 : decode cX12_holds 5 = .ok (.ifCond .eq 32, 3) := by decide +kernel
theorem dX12_holds_8 : decode cX12_holds 8 = .ok (.aload_n 0, 1) := by decide +kernel
theorem dX12_holds_9 : decode cX12_holds 9 = .ok (.iload_n 2, 1) := by decide +kernel
theorem dX12_holds_10 : decode cX12_holds 10 = .ok (.invokevirtual 120, 3) := by decide +kernel
theorem dX12_holds_13 : decode cX12_holds 13 = .ok (.ifCond .eq 24, 3) := by decide +kernel
theorem dX12_holds_16 : decode cX12_holds 16 = .ok (.iload_n 3, 1) := by decide +kernel
theorem dX12_holds_17 : decode cX12_holds 17 = .ok (.invokestatic 123, 3) := by decide +kernel
theorem dX12_holds_20 : decode cX12_holds 20 = .ok (.ifCond .eq 17, 3) := by decide +kernel
theorem dX12_holds_23 : decode cX12_holds 23 = .ok (.iload 4, 2) := by decide +kernel
theorem dX12_holds_25 : decode cX12_holds 25 = .ok (.invokestatic 123, 3) := by decide +kernel
theorem dX12_holds_28 : decode cX12_holds 28 = .ok (.ifCond .eq 9, 3) := by decide +kernel
theorem dX12_holds_31 : decode cX12_holds 31 = .ok (.iload 4, 2) := by decide +kernel
theorem dX12_holds_33 : decode cX12_holds 33 = .ok (.iload_n 3, 1) := by decide +kernel
theorem dX12_holds_34 : decode cX12_holds 34 = .ok (.if_icmp .ge 5, 3) := by decide +kernel
theorem dX12_holds_37 : decode cX12_holds 37 = .ok (.iconst (-1), 1) := by decide +kernel
theorem dX12_holds_38 : decode cX12_holds 38 = .ok (.ireturn, 1) := by decide +kernel
theorem dX12_holds_39 : decode cX12_holds 39 = .ok (.iload 5, 2) := by decide +kernel
theorem dX12_holds_41 : decode cX12_holds 41 = .ok (.iconst 0, 1) := by decide +kernel
theorem dX12_holds_42 : decode cX12_holds 42 = .ok (.sipush 999, 3) := by decide +kernel
theorem dX12_holds_45 : decode cX12_holds 45 = .ok (.invokestatic 68, 3) := by decide +kernel
theorem dX12_holds_48 : decode cX12_holds 48 = .ok (.ifCond .ne 6, 3) := by decide +kernel
theorem dX12_holds_51 : decode cX12_holds 51 = .ok (.bipush (-2), 2) := by decide +kernel
theorem dX12_holds_53 : decode cX12_holds 53 = .ok (.ireturn, 1) := by decide +kernel
theorem dX12_holds_54 : decode cX12_holds 54 = .ok (.aload_n 0, 1) := by decide +kernel
theorem dX12_holds_55 : decode cX12_holds 55 = .ok (.iload_n 2, 1) := by decide +kernel
theorem dX12_holds_56 : decode cX12_holds 56 = .ok (.iload_n 3, 1) := by decide +kernel
theorem dX12_holds_57 : decode cX12_holds 57 = .ok (.iload 4, 2) := by decide +kernel
theorem dX12_holds_59 : decode cX12_holds 59 = .ok (.iload 5, 2) := by decide +kernel
theorem dX12_holds_61 : decode cX12_holds 61 = .ok (.invokevirtual 144, 3) := by decide +kernel
theorem dX12_holds_64 : decode cX12_holds 64 = .ok (.aload_n 0, 1) := by decide +kernel
theorem dX12_holds_65 : decode cX12_holds 65 = .ok (.getfield 40, 3) := by decide +kernel
theorem dX12_holds_68 : decode cX12_holds 68 = .ok (.iload_n 1, 1) := by decide +kernel
theorem dX12_holds_69 : decode cX12_holds 69 = .ok (.iaload, 1) := by decide +kernel
theorem dX12_holds_70 : decode cX12_holds 70 = .ok (.ldc 136, 2) := by decide +kernel
theorem dX12_holds_72 : decode cX12_holds 72 = .ok (.if_icmp .ne 8, 3) := by decide +kernel
theorem dX12_holds_75 : decode cX12_holds 75 = .ok (.bipush (-9), 2) := by decide +kernel
theorem dX12_holds_77 : decode cX12_holds 77 = .ok (.goto 9, 3) := by decide +kernel
theorem dX12_holds_80 : decode cX12_holds 80 = .ok (.aload_n 0, 1) := by decide +kernel
theorem dX12_holds_81 : decode cX12_holds 81 = .ok (.getfield 40, 3) := by decide +kernel
theorem dX12_holds_84 : decode cX12_holds 84 = .ok (.iload_n 1, 1) := by decide +kernel
theorem dX12_holds_85 : decode cX12_holds 85 = .ok (.iaload, 1) := by decide +kernel
theorem dX12_holds_86 : decode cX12_holds 86 = .ok (.ireturn, 1) := by decide +kernel
theorem dX12_leastStep_0 : decode cX12_leastStep 0 = .ok (.aload_n 0, 1) := by decide +kernel
theorem dX12_leastStep_1 : decode cX12_leastStep 1 = .ok (.iload_n 1, 1) := by decide +kernel
theorem dX12_leastStep_2 : decode cX12_leastStep 2 = .ok (.invokevirtual 120, 3) := by decide +kernel
theorem dX12_leastStep_5 : decode cX12_leastStep 5 = .ok (.ifCond .eq 18, 3) := by decide +kernel
theorem dX12_leastStep_8 : decode cX12_leastStep 8 = .ok (.aload_n 0, 1) := by decide +kernel
theorem dX12_leastStep_9 : decode cX12_leastStep 9 = .ok (.iload_n 2, 1) := by decide +kernel
theorem dX12_leastStep_10 : decode cX12_leastStep 10 = .ok (.invokevirtual 120, 3) := by decide +kernel
theorem dX12_leastStep_13 : decode cX12_leastStep 13 = .ok (.ifCond .eq 10, 3) := by decide +kernel
theorem dX12_leastStep_16 : decode cX12_leastStep 16 = .ok (.iload_n 3, 1) := by decide +kernel
theorem dX12_leastStep_17 : decode cX12_leastStep 17 = .ok (.invokestatic 123, 3) := by decide +kernel
theorem dX12_leastStep_20 : decode cX12_leastStep 20 = .ok (.ifCond .ne 5, 3) := by decide +kernel
theorem dX12_leastStep_23 : decode cX12_leastStep 23 = .ok (.iconst (-1), 1) := by decide +kernel
theorem dX12_leastStep_24 : decode cX12_leastStep 24 = .ok (.ireturn, 1) := by decide +kernel
theorem dX12_leastStep_25 : decode cX12_leastStep 25 = .ok (.iconst 0, 1) := by decide +kernel
theorem dX12_leastStep_26 : decode cX12_leastStep 26 = .ok (.istore 4, 2) := by decide +kernel
theorem dX12_leastStep_28 : decode cX12_leastStep 28 = .ok (.iload 4, 2) := by decide +kernel
theorem dX12_leastStep_30 : decode cX12_leastStep 30 = .ok (.aload_n 0, 1) := by decide +kernel
theorem dX12_leastStep_31 : decode cX12_leastStep 31 = .ok (.invokevirtual 78, 3) := by decide +kernel
theorem dX12_leastStep_34 : decode cX12_leastStep 34 = .ok (.if_icmp .ge 28, 3) := by decide +kernel
theorem dX12_leastStep_37 : decode cX12_leastStep 37 = .ok (.aload_n 0, 1) := by decide +kernel
theorem dX12_leastStep_38 : decode cX12_leastStep 38 = .ok (.getfield 43, 3) := by decide +kernel
theorem dX12_leastStep_41 : decode cX12_leastStep 41 = .ok (.iload 4, 2) := by decide +kernel
theorem dX12_leastStep_43 : decode cX12_leastStep 43 = .ok (.iload 4, 2) := by decide +kernel
theorem dX12_leastStep_45 : decode cX12_leastStep 45 = .ok (.iload_n 2, 1) := by decide +kernel
theorem dX12_leastStep_46 : decode cX12_leastStep 46 = .ok (.if_icmp .ne 7, 3) := by decide +kernel
theorem dX12_leastStep_49 : decode cX12_leastStep 49 = .ok (.iconst 0, 1) := by decide +kernel
theorem dX12_leastStep_50 : decode cX12_leastStep 50 = .ok (.goto 5, 3) := by decide +kernel
theorem dX12_leastStep_53 : decode cX12_leastStep 53 = .ok (.ldc 136, 2) := by decide +kernel
theorem dX12_leastStep_55 : decode cX12_leastStep 55 = .ok (.iastore, 1) := by decide +kernel
theorem dX12_leastStep_56 : decode cX12_leastStep 56 = .ok (.iinc 4 1, 3) := by decide +kernel
theorem dX12_leastStep_59 : decode cX12_leastStep 59 = .ok (.goto (-31), 3) := by decide +kernel
theorem dX12_leastStep_62 : decode cX12_leastStep 62 = .ok (.iconst 0, 1) := by decide +kernel
theorem dX12_leastStep_63 : decode cX12_leastStep 63 = .ok (.istore 4, 2) := by decide +kernel
theorem dX12_leastStep_65 : decode cX12_leastStep 65 = .ok (.iload 4, 2) := by decide +kernel
theorem dX12_leastStep_67 : decode cX12_leastStep 67 = .ok (.aload_n 0, 1) := by decide +kernel
theorem dX12_leastStep_68 : decode cX12_leastStep 68 = .ok (.invokevirtual 78, 3) := by decide +kernel
theorem dX12_leastStep_71 : decode cX12_leastStep 71 = .ok (.if_icmp .ge 136, 3) := by decide +kernel
theorem dX12_leastStep_74 : decode cX12_leastStep 74 = .ok (.iconst 0, 1) := by decide +kernel
theorem dX12_leastStep_75 : decode cX12_leastStep 75 = .ok (.istore 5, 2) := by decide +kernel
theorem dX12_leastStep_77 : decode cX12_leastStep 77 = .ok (.iload 5, 2) := by decide +kernel
theorem dX12_leastStep_79 : decode cX12_leastStep 79 = .ok (.aload_n 0, 1) := by decide +kernel
theorem dX12_leastStep_80 : decode cX12_leastStep 80 = .ok (.invokevirtual 78, 3) := by decide +kernel
theorem dX12_leastStep_83 : decode cX12_leastStep 83 = .ok (.if_icmp .ge 118, 3) := by decide +kernel
theorem dX12_leastStep_86 : decode cX12_leastStep 86 = .ok (.iconst 0, 1) := by decide +kernel
theorem dX12_leastStep_87 : decode cX12_leastStep 87 = .ok (.istore 6, 2) := by decide +kernel
theorem dX12_leastStep_89 : decode cX12_leastStep 89 = .ok (.iload 6, 2) := by decide +kernel
theorem dX12_leastStep_91 : decode cX12_leastStep 91 = .ok (.iconst 4, 1) := by decide +kernel
theorem dX12_leastStep_92 : decode cX12_leastStep 92 = .ok (.if_icmp .ge 103, 3) := by decide +kernel
theorem dX12_leastStep_95 : decode cX12_leastStep 95 = .ok (.aload_n 0, 1) := by decide +kernel
theorem dX12_leastStep_96 : decode cX12_leastStep 96 = .ok (.iload 5, 2) := by decide +kernel
theorem dX12_leastStep_98 : decode cX12_leastStep 98 = .ok (.iload 6, 2) := by decide +kernel
theorem dX12_leastStep_100 : decode cX12_leastStep 100 = .ok (.invokevirtual 137, 3) := by decide +kernel
theorem dX12_leastStep_103 : decode cX12_leastStep 103 = .ok (.istore 7, 2) := by decide +kernel
theorem dX12_leastStep_105 : decode cX12_leastStep 105 = .ok (.iload 7, 2) := by decide +kernel
theorem dX12_leastStep_107 : decode cX12_leastStep 107 = .ok (.bipush (-9), 2) := by decide +kernel
theorem dX12_leastStep_109 : decode cX12_leastStep 109 = .ok (.if_icmp .eq 80, 3) := by decide +kernel
theorem dX12_leastStep_112 : decode cX12_leastStep 112 = .ok (.aload_n 0, 1) := by decide +kernel
theorem dX12_leastStep_113 : decode cX12_leastStep 113 = .ok (.iload 5, 2) := by decide +kernel
theorem dX12_leastStep_115 : decode cX12_leastStep 115 = .ok (.iload_n 3, 1) := by decide +kernel
theorem dX12_leastStep_116 : decode cX12_leastStep 116 = .ok (.invokevirtual 129, 3) := by decide +kernel
theorem dX12_leastStep_119 : decode cX12_leastStep 119 = .ok (.aload_n 0, 1) := by decide +kernel
theorem dX12_leastStep_120 : decode cX12_leastStep 120 = .ok (.iload 7, 2) := by decide +kernel
theorem dX12_leastStep_122 : decode cX12_leastStep 122 = .ok (.iload_n 3, 1) := by decide +kernel
theorem dX12_leastStep_123 : decode cX12_leastStep 123 = .ok (.invokevirtual 129, 3) := by decide +kernel
theorem dX12_leastStep_126 : decode cX12_leastStep 126 = .ok (.isub, 1) := by decide +kernel
theorem dX12_leastStep_127 : decode cX12_leastStep 127 = .ok (.invokestatic 133, 3) := by decide +kernel
theorem dX12_leastStep_130 : decode cX12_leastStep 130 = .ok (.istore 8, 2) := by decide +kernel
theorem dX12_leastStep_132 : decode cX12_leastStep 132 = .ok (.aload_n 0, 1) := by decide +kernel
theorem dX12_leastStep_133 : decode cX12_leastStep 133 = .ok (.getfield 43, 3) := by decide +kernel
theorem dX12_leastStep_136 : decode cX12_leastStep 136 = .ok (.iload 7, 2) := by decide +kernel
theorem dX12_leastStep_138 : decode cX12_leastStep 138 = .ok (.iaload, 1) := by decide +kernel
theorem dX12_leastStep_139 : decode cX12_leastStep 139 = .ok (.iload 8, 2) := by decide +kernel
theorem dX12_leastStep_141 : decode cX12_leastStep 141 = .ok (.if_icmp .le 13, 3) := by decide +kernel
theorem dX12_leastStep_144 : decode cX12_leastStep 144 = .ok (.aload_n 0, 1) := by decide +kernel
theorem dX12_leastStep_145 : decode cX12_leastStep 145 = .ok (.getfield 43, 3) := by decide +kernel
theorem dX12_leastStep_148 : decode cX12_leastStep 148 = .ok (.iload 7, 2) := by decide +kernel
theorem dX12_leastStep_150 : decode cX12_leastStep 150 = .ok (.iaload, 1) := by decide +kernel
theorem dX12_leastStep_151 : decode cX12_leastStep 151 = .ok (.goto 5, 3) := by decide +kernel
theorem dX12_leastStep_154 : decode cX12_leastStep 154 = .ok (.iload 8, 2) := by decide +kernel
theorem dX12_leastStep_156 : decode cX12_leastStep 156 = .ok (.istore 9, 2) := by decide +kernel
theorem dX12_leastStep_158 : decode cX12_leastStep 158 = .ok (.aload_n 0, 1) := by decide +kernel
theorem dX12_leastStep_159 : decode cX12_leastStep 159 = .ok (.getfield 43, 3) := by decide +kernel
theorem dX12_leastStep_162 : decode cX12_leastStep 162 = .ok (.iload 5, 2) := by decide +kernel
theorem dX12_leastStep_164 : decode cX12_leastStep 164 = .ok (.iload 9, 2) := by decide +kernel
theorem dX12_leastStep_166 : decode cX12_leastStep 166 = .ok (.aload_n 0, 1) := by decide +kernel
theorem dX12_leastStep_167 : decode cX12_leastStep 167 = .ok (.getfield 43, 3) := by decide +kernel
theorem dX12_leastStep_170 : decode cX12_leastStep 170 = .ok (.iload 5, 2) := by decide +kernel
theorem dX12_leastStep_172 : decode cX12_leastStep 172 = .ok (.iaload, 1) := by decide +kernel
theorem dX12_leastStep_173 : decode cX12_leastStep 173 = .ok (.if_icmp .ge 8, 3) := by decide +kernel
theorem dX12_leastStep_176 : decode cX12_leastStep 176 = .ok (.iload 9, 2) := by decide +kernel
theorem dX12_leastStep_178 : decode cX12_leastStep 178 = .ok (.goto 10, 3) := by decide +kernel
theorem dX12_leastStep_181 : decode cX12_leastStep 181 = .ok (.aload_n 0, 1) := by decide +kernel
theorem dX12_leastStep_182 : decode cX12_leastStep 182 = .ok (.getfield 43, 3) := by decide +kernel
theorem dX12_leastStep_185 : decode cX12_leastStep 185 = .ok (.iload 5, 2) := by decide +kernel
theorem dX12_leastStep_187 : decode cX12_leastStep 187 = .ok (.iaload, 1) := by decide +kernel
theorem dX12_leastStep_188 : decode cX12_leastStep 188 = .ok (.iastore, 1) := by decide +kernel
theorem dX12_leastStep_189 : decode cX12_leastStep 189 = .ok (.iinc 6 1, 3) := by decide +kernel
theorem dX12_leastStep_192 : decode cX12_leastStep 192 = .ok (.goto (-103), 3) := by decide +kernel
theorem dX12_leastStep_195 : decode cX12_leastStep 195 = .ok (.iinc 5 1, 3) := by decide +kernel
theorem dX12_leastStep_198 : decode cX12_leastStep 198 = .ok (.goto (-121), 3) := by decide +kernel
theorem dX12_leastStep_201 : decode cX12_leastStep 201 = .ok (.iinc 4 1, 3) := by decide +kernel
theorem dX12_leastStep_204 : decode cX12_leastStep 204 = .ok (.goto (-139), 3) := by decide +kernel
theorem dX12_leastStep_207 : decode cX12_leastStep 207 = .ok (.aload_n 0, 1) := by decide +kernel
theorem dX12_leastStep_208 : decode cX12_leastStep 208 = .ok (.getfield 43, 3) := by decide +kernel
theorem dX12_leastStep_211 : decode cX12_leastStep 211 = .ok (.iload_n 1, 1) := by decide +kernel
theorem dX12_leastStep_212 : decode cX12_leastStep 212 = .ok (.iaload, 1) := by decide +kernel
theorem dX12_leastStep_213 : decode cX12_leastStep 213 = .ok (.ireturn, 1) := by decide +kernel
theorem dX12_isPlace_0 : decode cX12_isPlace 0 = .ok (.aload_n 0, 1) := by decide +kernel
theorem dX12_isPlace_1 : decode cX12_isPlace 1 = .ok (.iload_n 1, 1) := by decide +kernel
theorem dX12_isPlace_2 : decode cX12_isPlace 2 = .ok (.invokevirtual 120, 3) := by decide +kernel
theorem dX12_isPlace_5 : decode cX12_isPlace 5 = .ok (.ifCond .eq 37, 3) := by decide +kernel
theorem dX12_isPlace_8 : decode cX12_isPlace 8 = .ok (.iload_n 1, 1) := by decide +kernel
theorem dX12_isPlace_9 : decode cX12_isPlace 9 = .ok (.aload_n 0, 1) := by decide +kernel
theorem dX12_isPlace_10 : decode cX12_isPlace 10 = .ok (.getfield 75, 3) := by decide +kernel
theorem dX12_isPlace_13 : decode cX12_isPlace 13 = .ok (.idiv, 1) := by decide +kernel
theorem dX12_isPlace_14 : decode cX12_isPlace 14 = .ok (.aload_n 0, 1) := by decide +kernel
theorem dX12_isPlace_15 : decode cX12_isPlace 15 = .ok (.getfield 72, 3) := by decide +kernel
theorem dX12_isPlace_18 : decode cX12_isPlace 18 = .ok (.iconst 1, 1) := by decide +kernel
theorem dX12_isPlace_19 : decode cX12_isPlace 19 = .ok (.isub, 1) := by decide +kernel
theorem dX12_isPlace_20 : decode cX12_isPlace 20 = .ok (.if_icmp .ge 22, 3) := by decide +kernel
theorem dX12_isPlace_23 : decode cX12_isPlace 23 = .ok (.iload_n 1, 1) := by decide +kernel
theorem dX12_isPlace_24 : decode cX12_isPlace 24 = .ok (.aload_n 0, 1) := by decide +kernel
theorem dX12_isPlace_25 : decode cX12_isPlace 25 = .ok (.getfield 75, 3) := by decide +kernel
theorem dX12_isPlace_28 : decode cX12_isPlace 28 = .ok (.irem, 1) := by decide +kernel
theorem dX12_isPlace_29 : decode cX12_isPlace 29 = .ok (.aload_n 0, 1) := by decide +kernel
theorem dX12_isPlace_30 : decode cX12_isPlace 30 = .ok (.getfield 75, 3) := by decide +kernel
theorem dX12_isPlace_33 : decode cX12_isPlace 33 = .ok (.iconst 1, 1) := by decide +kernel
theorem dX12_isPlace_34 : decode cX12_isPlace 34 = .ok (.isub, 1) := by decide +kernel
theorem dX12_isPlace_35 : decode cX12_isPlace 35 = .ok (.if_icmp .ge 7, 3) := by decide +kernel
theorem dX12_isPlace_38 : decode cX12_isPlace 38 = .ok (.iconst 1, 1) := by decide +kernel
theorem dX12_isPlace_39 : decode cX12_isPlace 39 = .ok (.goto 4, 3) := by decide +kernel
theorem dX12_isPlace_42 : decode cX12_isPlace 42 = .ok (.iconst 0, 1) := by decide +kernel
theorem dX12_isPlace_43 : decode cX12_isPlace 43 = .ok (.ireturn, 1) := by decide +kernel
theorem dX12_wedgesOf_0 : decode cX12_wedgesOf 0 = .ok (.aload_n 0, 1) := by decide +kernel
theorem dX12_wedgesOf_1 : decode cX12_wedgesOf 1 = .ok (.iload_n 1, 1) := by decide +kernel
theorem dX12_wedgesOf_2 : decode cX12_wedgesOf 2 = .ok (.iload_n 2, 1) := by decide +kernel
theorem dX12_wedgesOf_3 : decode cX12_wedgesOf 3 = .ok (.invokevirtual 129, 3) := by decide +kernel
theorem dX12_wedgesOf_6 : decode cX12_wedgesOf 6 = .ok (.istore_n 3, 1) := by decide +kernel
theorem dX12_wedgesOf_7 : decode cX12_wedgesOf 7 = .ok (.aload_n 0, 1) := by decide +kernel
theorem dX12_wedgesOf_8 : decode cX12_wedgesOf 8 = .ok (.iload_n 1, 1) := by decide +kernel
theorem dX12_wedgesOf_9 : decode cX12_wedgesOf 9 = .ok (.iconst 1, 1) := by decide +kernel
theorem dX12_wedgesOf_10 : decode cX12_wedgesOf 10 = .ok (.iadd, 1) := by decide +kernel
theorem dX12_wedgesOf_11 : decode cX12_wedgesOf 11 = .ok (.iload_n 2, 1) := by decide +kernel
theorem dX12_wedgesOf_12 : decode cX12_wedgesOf 12 = .ok (.invokevirtual 129, 3) := by decide +kernel
theorem dX12_wedgesOf_15 : decode cX12_wedgesOf 15 = .ok (.istore 4, 2) := by decide +kernel
theorem dX12_wedgesOf_17 : decode cX12_wedgesOf 17 = .ok (.aload_n 0, 1) := by decide +kernel
theorem dX12_wedgesOf_18 : decode cX12_wedgesOf 18 = .ok (.iload_n 1, 1) := by decide +kernel
theorem dX12_wedgesOf_19 : decode cX12_wedgesOf 19 = .ok (.aload_n 0, 1) := by decide +kernel
theorem dX12_wedgesOf_20 : decode cX12_wedgesOf 20 = .ok (.getfield 75, 3) := by decide +kernel
theorem dX12_wedgesOf_23 : decode cX12_wedgesOf 23 = .ok (.iadd, 1) := by decide +kernel
theorem dX12_wedgesOf_24 : decode cX12_wedgesOf 24 = .ok (.iload_n 2, 1) := by decide +kernel
theorem dX12_wedgesOf_25 : decode cX12_wedgesOf 25 = .ok (.invokevirtual 129, 3) := by decide +kernel
theorem dX12_wedgesOf_28 : decode cX12_wedgesOf 28 = .ok (.istore 5, 2) := by decide +kernel
theorem dX12_wedgesOf_30 : decode cX12_wedgesOf 30 = .ok (.aload_n 0, 1) := by decide +kernel
theorem dX12_wedgesOf_31 : decode cX12_wedgesOf 31 = .ok (.iload_n 1, 1) := by decide +kernel
theorem dX12_wedgesOf_32 : decode cX12_wedgesOf 32 = .ok (.aload_n 0, 1) := by decide +kernel
theorem dX12_wedgesOf_33 : decode cX12_wedgesOf 33 = .ok (.getfield 75, 3) := by decide +kernel
theorem dX12_wedgesOf_36 : decode cX12_wedgesOf 36 = .ok (.iadd, 1) := by decide +kernel
theorem dX12_wedgesOf_37 : decode cX12_wedgesOf 37 = .ok (.iconst 1, 1) := by decide +kernel
theorem dX12_wedgesOf_38 : decode cX12_wedgesOf 38 = .ok (.iadd, 1) := by decide +kernel
theorem dX12_wedgesOf_39 : decode cX12_wedgesOf 39 = .ok (.iload_n 2, 1) := by decide +kernel
theorem dX12_wedgesOf_40 : decode cX12_wedgesOf 40 = .ok (.invokevirtual 129, 3) := by decide +kernel
theorem dX12_wedgesOf_43 : decode cX12_wedgesOf 43 = .ok (.istore 6, 2) := by decide +kernel
theorem dX12_wedgesOf_45 : decode cX12_wedgesOf 45 = .ok (.iload_n 3, 1) := by decide +kernel
theorem dX12_wedgesOf_46 : decode cX12_wedgesOf 46 = .ok (.iload 4, 2) := by decide +kernel
theorem dX12_wedgesOf_48 : decode cX12_wedgesOf 48 = .ok (.if_icmp .le 7, 3) := by decide +kernel
theorem dX12_wedgesOf_51 : decode cX12_wedgesOf 51 = .ok (.iload_n 3, 1) := by decide +kernel
theorem dX12_wedgesOf_52 : decode cX12_wedgesOf 52 = .ok (.goto 5, 3) := by decide +kernel
theorem dX12_wedgesOf_55 : decode cX12_wedgesOf 55 = .ok (.iload 4, 2) := by decide +kernel
theorem dX12_wedgesOf_57 : decode cX12_wedgesOf 57 = .ok (.istore 7, 2) := by decide +kernel
theorem dX12_wedgesOf_59 : decode cX12_wedgesOf 59 = .ok (.iload 5, 2) := by decide +kernel
theorem dX12_wedgesOf_61 : decode cX12_wedgesOf 61 = .ok (.iload 7, 2) := by decide +kernel
theorem dX12_wedgesOf_63 : decode cX12_wedgesOf 63 = .ok (.if_icmp .le 8, 3) := by decide +kernel
theorem dX12_wedgesOf_66 : decode cX12_wedgesOf 66 = .ok (.iload 5, 2) := by decide +kernel
theorem dX12_wedgesOf_68 : decode cX12_wedgesOf 68 = .ok (.goto 5, 3) := by decide +kernel
theorem dX12_wedgesOf_71 : decode cX12_wedgesOf 71 = .ok (.iload 7, 2) := by decide +kernel
theorem dX12_wedgesOf_73 : decode cX12_wedgesOf 73 = .ok (.istore 7, 2) := by decide +kernel
theorem dX12_wedgesOf_75 : decode cX12_wedgesOf 75 = .ok (.iload 6, 2) := by decide +kernel
theorem dX12_wedgesOf_77 : decode cX12_wedgesOf 77 = .ok (.iload 7, 2) := by decide +kernel
theorem dX12_wedgesOf_79 : decode cX12_wedgesOf 79 = .ok (.if_icmp .le 8, 3) := by decide +kernel
theorem dX12_wedgesOf_82 : decode cX12_wedgesOf 82 = .ok (.iload 6, 2) := by decide +kernel
theorem dX12_wedgesOf_84 : decode cX12_wedgesOf 84 = .ok (.goto 5, 3) := by decide +kernel
theorem dX12_wedgesOf_87 : decode cX12_wedgesOf 87 = .ok (.iload 7, 2) := by decide +kernel
theorem dX12_wedgesOf_89 : decode cX12_wedgesOf 89 = .ok (.istore 7, 2) := by decide +kernel
theorem dX12_wedgesOf_91 : decode cX12_wedgesOf 91 = .ok (.iconst 4, 1) := by decide +kernel
theorem dX12_wedgesOf_92 : decode cX12_wedgesOf 92 = .ok (.iload 7, 2) := by decide +kernel
theorem dX12_wedgesOf_94 : decode cX12_wedgesOf 94 = .ok (.imul, 1) := by decide +kernel
theorem dX12_wedgesOf_95 : decode cX12_wedgesOf 95 = .ok (.iload_n 3, 1) := by decide +kernel
theorem dX12_wedgesOf_96 : decode cX12_wedgesOf 96 = .ok (.isub, 1) := by decide +kernel
theorem dX12_wedgesOf_97 : decode cX12_wedgesOf 97 = .ok (.iload 4, 2) := by decide +kernel
theorem dX12_wedgesOf_99 : decode cX12_wedgesOf 99 = .ok (.isub, 1) := by decide +kernel
theorem dX12_wedgesOf_100 : decode cX12_wedgesOf 100 = .ok (.iload 5, 2) := by decide +kernel
theorem dX12_wedgesOf_102 : decode cX12_wedgesOf 102 = .ok (.isub, 1) := by decide +kernel
theorem dX12_wedgesOf_103 : decode cX12_wedgesOf 103 = .ok (.iload 6, 2) := by decide +kernel
theorem dX12_wedgesOf_105 : decode cX12_wedgesOf 105 = .ok (.isub, 1) := by decide +kernel
theorem dX12_wedgesOf_106 : decode cX12_wedgesOf 106 = .ok (.ireturn, 1) := by decide +kernel
theorem dX12_wedges_0 : decode cX12_wedges 0 = .ok (.aload_n 0, 1) := by decide +kernel
theorem dX12_wedges_1 : decode cX12_wedges 1 = .ok (.iload_n 1, 1) := by decide +kernel
theorem dX12_wedges_2 : decode cX12_wedges 2 = .ok (.invokevirtual 148, 3) := by decide +kernel
theorem dX12_wedges_5 : decode cX12_wedges 5 = .ok (.ifCond .eq 19, 3) := by decide +kernel
theorem dX12_wedges_8 : decode cX12_wedges 8 = .ok (.iload_n 2, 1) := by decide +kernel
theorem dX12_wedges_9 : decode cX12_wedges 9 = .ok (.invokestatic 123, 3) := by decide +kernel
theorem dX12_wedges_12 : decode cX12_wedges 12 = .ok (.ifCond .eq 12, 3) := by decide +kernel
theorem dX12_wedges_15 : decode cX12_wedges 15 = .ok (.aload_n 0, 1) := by decide +kernel
theorem dX12_wedges_16 : decode cX12_wedges 16 = .ok (.iload_n 1, 1) := by decide +kernel
theorem dX12_wedges_17 : decode cX12_wedges 17 = .ok (.iload_n 2, 1) := by decide +kernel
theorem dX12_wedges_18 : decode cX12_wedges 18 = .ok (.invokevirtual 151, 3) := by decide +kernel
theorem dX12_wedges_21 : decode cX12_wedges 21 = .ok (.goto 4, 3) := by decide +kernel
theorem dX12_wedges_24 : decode cX12_wedges 24 = .ok (.iconst (-1), 1) := by decide +kernel
theorem dX12_wedges_25 : decode cX12_wedges 25 = .ok (.ireturn, 1) := by decide +kernel
theorem dX12_best_0 : decode cX12_best 0 = .ok (.iload_n 1, 1) := by decide +kernel
theorem dX12_best_1 : decode cX12_best 1 = .ok (.invokestatic 123, 3) := by decide +kernel
theorem dX12_best_4 : decode cX12_best 4 = .ok (.ifCond .ne 5, 3) := by decide +kernel
theorem dX12_best_7 : decode cX12_best 7 = .ok (.iconst (-1), 1) := by decide +kernel
theorem dX12_best_8 : decode cX12_best 8 = .ok (.ireturn, 1) := by decide +kernel
theorem dX12_best_9 : decode cX12_best 9 = .ok (.iload_n 2, 1) := by decide +kernel
theorem dX12_best_10 : decode cX12_best 10 = .ok (.iconst 0, 1) := by decide +kernel
theorem dX12_best_11 : decode cX12_best 11 = .ok (.iconst 1, 1) := by decide +kernel
theorem dX12_best_12 : decode cX12_best 12 = .ok (.invokestatic 68, 3) := by decide +kernel
theorem dX12_best_15 : decode cX12_best 15 = .ok (.ifCond .ne 6, 3) := by decide +kernel
theorem dX12_best_18 : decode cX12_best 18 = .ok (.bipush (-2), 2) := by decide +kernel
theorem dX12_best_20 : decode cX12_best 20 = .ok (.ireturn, 1) := by decide +kernel
theorem dX12_best_21 : decode cX12_best 21 = .ok (.aload_n 0, 1) := by decide +kernel
theorem dX12_best_22 : decode cX12_best 22 = .ok (.invokevirtual 78, 3) := by decide +kernel
theorem dX12_best_25 : decode cX12_best 25 = .ok (.ifCond .ne 6, 3) := by decide +kernel
theorem dX12_best_28 : decode cX12_best 28 = .ok (.bipush (-3), 2) := by decide +kernel
theorem dX12_best_30 : decode cX12_best 30 = .ok (.ireturn, 1) := by decide +kernel
theorem dX12_best_31 : decode cX12_best 31 = .ok (.iconst 0, 1) := by decide +kernel
theorem dX12_best_32 : decode cX12_best 32 = .ok (.istore_n 3, 1) := by decide +kernel
theorem dX12_best_33 : decode cX12_best 33 = .ok (.iconst 1, 1) := by decide +kernel
theorem dX12_best_34 : decode cX12_best 34 = .ok (.istore 4, 2) := by decide +kernel
theorem dX12_best_36 : decode cX12_best 36 = .ok (.iload 4, 2) := by decide +kernel
theorem dX12_best_38 : decode cX12_best 38 = .ok (.aload_n 0, 1) := by decide +kernel
theorem dX12_best_39 : decode cX12_best 39 = .ok (.invokevirtual 78, 3) := by decide +kernel
theorem dX12_best_42 : decode cX12_best 42 = .ok (.if_icmp .ge 41, 3) := by decide +kernel
theorem dX12_best_45 : decode cX12_best 45 = .ok (.aload_n 0, 1) := by decide +kernel
theorem dX12_best_46 : decode cX12_best 46 = .ok (.iload 4, 2) := by decide +kernel
theorem dX12_best_48 : decode cX12_best 48 = .ok (.invokevirtual 148, 3) := by decide +kernel
theorem dX12_best_51 : decode cX12_best 51 = .ok (.ifCond .eq 24, 3) := by decide +kernel
theorem dX12_best_54 : decode cX12_best 54 = .ok (.aload_n 0, 1) := by decide +kernel
theorem dX12_best_55 : decode cX12_best 55 = .ok (.iload 4, 2) := by decide +kernel
theorem dX12_best_57 : decode cX12_best 57 = .ok (.iload_n 1, 1) := by decide +kernel
theorem dX12_best_58 : decode cX12_best 58 = .ok (.invokevirtual 151, 3) := by decide +kernel
theorem dX12_best_61 : decode cX12_best 61 = .ok (.aload_n 0, 1) := by decide +kernel
theorem dX12_best_62 : decode cX12_best 62 = .ok (.iload_n 3, 1) := by decide +kernel
theorem dX12_best_63 : decode cX12_best 63 = .ok (.iload_n 1, 1) := by decide +kernel
theorem dX12_best_64 : decode cX12_best 64 = .ok (.invokevirtual 151, 3) := by decide +kernel
theorem dX12_best_67 : decode cX12_best 67 = .ok (.if_icmp .ge 8, 3) := by decide +kernel
theorem dX12_best_70 : decode cX12_best 70 = .ok (.iload 4, 2) := by decide +kernel
theorem dX12_best_72 : decode cX12_best 72 = .ok (.goto 4, 3) := by decide +kernel
theorem dX12_best_75 : decode cX12_best 75 = .ok (.iload_n 3, 1) := by decide +kernel
theorem dX12_best_76 : decode cX12_best 76 = .ok (.istore_n 3, 1) := by decide +kernel
theorem dX12_best_77 : decode cX12_best 77 = .ok (.iinc 4 1, 3) := by decide +kernel
theorem dX12_best_80 : decode cX12_best 80 = .ok (.goto (-44), 3) := by decide +kernel
theorem dX12_best_83 : decode cX12_best 83 = .ok (.iload_n 2, 1) := by decide +kernel
theorem dX12_best_84 : decode cX12_best 84 = .ok (.ifCond .ne 7, 3) := by decide +kernel
theorem dX12_best_87 : decode cX12_best 87 = .ok (.iload_n 3, 1) := by decide +kernel
theorem dX12_best_88 : decode cX12_best 88 = .ok (.goto 9, 3) := by decide +kernel
theorem dX12_best_91 : decode cX12_best 91 = .ok (.aload_n 0, 1) := by decide +kernel
theorem dX12_best_92 : decode cX12_best 92 = .ok (.iload_n 3, 1) := by decide +kernel
theorem dX12_best_93 : decode cX12_best 93 = .ok (.iload_n 1, 1) := by decide +kernel
theorem dX12_best_94 : decode cX12_best 94 = .ok (.invokevirtual 151, 3) := by decide +kernel
theorem dX12_best_97 : decode cX12_best 97 = .ok (.ireturn, 1) := by decide +kernel
theorem dX12_areApart_0 : decode cX12_areApart 0 = .ok (.iload_n 1, 1) := by decide +kernel
theorem dX12_areApart_1 : decode cX12_areApart 1 = .ok (.aload_n 0, 1) := by decide +kernel
theorem dX12_areApart_2 : decode cX12_areApart 2 = .ok (.getfield 75, 3) := by decide +kernel
theorem dX12_areApart_5 : decode cX12_areApart 5 = .ok (.idiv, 1) := by decide +kernel
theorem dX12_areApart_6 : decode cX12_areApart 6 = .ok (.iload_n 2, 1) := by decide +kernel
theorem dX12_areApart_7 : decode cX12_areApart 7 = .ok (.aload_n 0, 1) := by decide +kernel
theorem dX12_areApart_8 : decode cX12_areApart 8 = .ok (.getfield 75, 3) := by decide +kernel
theorem dX12_areApart_11 : decode cX12_areApart 11 = .ok (.idiv, 1) := by decide +kernel
theorem dX12_areApart_12 : decode cX12_areApart 12 = .ok (.isub, 1) := by decide +kernel
theorem dX12_areApart_13 : decode cX12_areApart 13 = .ok (.invokestatic 133, 3) := by decide +kernel
theorem dX12_areApart_16 : decode cX12_areApart 16 = .ok (.iconst 1, 1) := by decide +kernel
theorem dX12_areApart_17 : decode cX12_areApart 17 = .ok (.if_icmp .gt 23, 3) := by decide +kernel
theorem dX12_areApart_20 : decode cX12_areApart 20 = .ok (.iload_n 1, 1) := by decide +kernel
theorem dX12_areApart_21 : decode cX12_areApart 21 = .ok (.aload_n 0, 1) := by decide +kernel
theorem dX12_areApart_22 : decode cX12_areApart 22 = .ok (.getfield 75, 3) := by decide +kernel
theorem dX12_areApart_25 : decode cX12_areApart 25 = .ok (.irem, 1) := by decide +kernel
theorem dX12_areApart_26 : decode cX12_areApart 26 = .ok (.iload_n 2, 1) := by decide +kernel
theorem dX12_areApart_27 : decode cX12_areApart 27 = .ok (.aload_n 0, 1) := by decide +kernel
theorem dX12_areApart_28 : decode cX12_areApart 28 = .ok (.getfield 75, 3) := by decide +kernel
theorem dX12_areApart_31 : decode cX12_areApart 31 = .ok (.irem, 1) := by decide +kernel
theorem dX12_areApart_32 : decode cX12_areApart 32 = .ok (.isub, 1) := by decide +kernel
theorem dX12_areApart_33 : decode cX12_areApart 33 = .ok (.invokestatic 133, 3) := by decide +kernel
theorem dX12_areApart_36 : decode cX12_areApart 36 = .ok (.iconst 1, 1) := by decide +kernel
theorem dX12_areApart_37 : decode cX12_areApart 37 = .ok (.if_icmp .le 7, 3) := by decide +kernel
theorem dX12_areApart_40 : decode cX12_areApart 40 = .ok (.iconst 1, 1) := by decide +kernel
theorem dX12_areApart_41 : decode cX12_areApart 41 = .ok (.goto 4, 3) := by decide +kernel
theorem dX12_areApart_44 : decode cX12_areApart 44 = .ok (.iconst 0, 1) := by decide +kernel
theorem dX12_areApart_45 : decode cX12_areApart 45 = .ok (.ireturn, 1) := by decide +kernel
theorem dX12_two_0 : decode cX12_two 0 = .ok (.iload_n 1, 1) := by decide +kernel
theorem dX12_two_1 : decode cX12_two 1 = .ok (.invokestatic 123, 3) := by decide +kernel
theorem dX12_two_4 : decode cX12_two 4 = .ok (.ifCond .ne 5, 3) := by decide +kernel
theorem dX12_two_7 : decode cX12_two 7 = .ok (.iconst (-1), 1) := by decide +kernel
theorem dX12_two_8 : decode cX12_two 8 = .ok (.ireturn, 1) := by decide +kernel
theorem dX12_two_9 : decode cX12_two 9 = .ok (.iload_n 2, 1) := by decide +kernel
theorem dX12_two_10 : decode cX12_two 10 = .ok (.iconst 0, 1) := by decide +kernel
theorem dX12_two_11 : decode cX12_two 11 = .ok (.iconst 2, 1) := by decide +kernel
theorem dX12_two_12 : decode cX12_two 12 = .ok (.invokestatic 68, 3) := by decide +kernel
theorem dX12_two_15 : decode cX12_two 15 = .ok (.ifCond .ne 6, 3) := by decide +kernel
theorem dX12_two_18 : decode cX12_two 18 = .ok (.bipush (-2), 2) := by decide +kernel
theorem dX12_two_20 : decode cX12_two 20 = .ok (.ireturn, 1) := by decide +kernel
theorem dX12_two_21 : decode cX12_two 21 = .ok (.aload_n 0, 1) := by decide +kernel
theorem dX12_two_22 : decode cX12_two 22 = .ok (.invokevirtual 78, 3) := by decide +kernel
theorem dX12_two_25 : decode cX12_two 25 = .ok (.ifCond .ne 6, 3) := by decide +kernel
theorem dX12_two_28 : decode cX12_two 28 = .ok (.bipush (-3), 2) := by decide +kernel
theorem dX12_two_30 : decode cX12_two 30 = .ok (.ireturn, 1) := by decide +kernel
theorem dX12_two_31 : decode cX12_two 31 = .ok (.bipush (-9), 2) := by decide +kernel
theorem dX12_two_33 : decode cX12_two 33 = .ok (.istore_n 3, 1) := by decide +kernel
theorem dX12_two_34 : decode cX12_two 34 = .ok (.bipush (-9), 2) := by decide +kernel
theorem dX12_two_36 : decode cX12_two 36 = .ok (.istore 4, 2) := by decide +kernel
theorem dX12_two_38 : decode cX12_two 38 = .ok (.bipush (-9), 2) := by decide +kernel
theorem dX12_two_40 : decode cX12_two 40 = .ok (.istore 5, 2) := by decide +kernel
theorem dX12_two_42 : decode cX12_two 42 = .ok (.iconst 0, 1) := by decide +kernel
theorem dX12_two_43 : decode cX12_two 43 = .ok (.istore 6, 2) := by decide +kernel
theorem dX12_two_45 : decode cX12_two 45 = .ok (.iload 6, 2) := by decide +kernel
theorem dX12_two_47 : decode cX12_two 47 = .ok (.aload_n 0, 1) := by decide +kernel
theorem dX12_two_48 : decode cX12_two 48 = .ok (.invokevirtual 78, 3) := by decide +kernel
theorem dX12_two_51 : decode cX12_two 51 = .ok (.if_icmp .ge 100, 3) := by decide +kernel
theorem dX12_two_54 : decode cX12_two 54 = .ok (.iload 6, 2) := by decide +kernel
theorem dX12_two_56 : decode cX12_two 56 = .ok (.iconst 1, 1) := by decide +kernel
theorem dX12_two_57 : decode cX12_two 57 = .ok (.iadd, 1) := by decide +kernel
theorem dX12_two_58 : decode cX12_two 58 = .ok (.istore 7, 2) := by decide +kernel
theorem dX12_two_60 : decode cX12_two 60 = .ok (.iload 7, 2) := by decide +kernel
theorem dX12_two_62 : decode cX12_two 62 = .ok (.aload_n 0, 1) := by decide +kernel
theorem dX12_two_63 : decode cX12_two 63 = .ok (.invokevirtual 78, 3) := by decide +kernel
theorem dX12_two_66 : decode cX12_two 66 = .ok (.if_icmp .ge 79, 3) := by decide +kernel
theorem dX12_two_69 : decode cX12_two 69 = .ok (.aload_n 0, 1) := by decide +kernel
theorem dX12_two_70 : decode cX12_two 70 = .ok (.iload 6, 2) := by decide +kernel
theorem dX12_two_72 : decode cX12_two 72 = .ok (.invokevirtual 148, 3) := by decide +kernel
theorem dX12_two_75 : decode cX12_two 75 = .ok (.ifCond .eq 70, 3) := by decide +kernel
theorem dX12_two_78 : decode cX12_two 78 = .ok (.aload_n 0, 1) := by decide +kernel
theorem dX12_two_79 : decode cX12_two 79 = .ok (.iload 7, 2) := by decide +kernel
theorem dX12_two_81 : decode cX12_two 81 = .ok (.invokevirtual 148, 3) := by decide +kernel
theorem dX12_two_84 : decode cX12_two 84 = .ok (.ifCond .eq 55, 3) := by decide +kernel
theorem dX12_two_87 : decode cX12_two 87 = .ok (.aload_n 0, 1) := by decide +kernel
theorem dX12_two_88 : decode cX12_two 88 = .ok (.iload 6, 2) := by decide +kernel
theorem dX12_two_90 : decode cX12_two 90 = .ok (.iload 7, 2) := by decide +kernel
theorem dX12_two_92 : decode cX12_two 92 = .ok (.invokevirtual 154, 3) := by decide +kernel
theorem dX12_two_95 : decode cX12_two 95 = .ok (.ifCond .eq 44, 3) := by decide +kernel
theorem dX12_two_98 : decode cX12_two 98 = .ok (.aload_n 0, 1) := by decide +kernel
theorem dX12_two_99 : decode cX12_two 99 = .ok (.iload 6, 2) := by decide +kernel
theorem dX12_two_101 : decode cX12_two 101 = .ok (.iload_n 1, 1) := by decide +kernel
theorem dX12_two_102 : decode cX12_two 102 = .ok (.invokevirtual 151, 3) := by decide +kernel
theorem dX12_two_105 : decode cX12_two 105 = .ok (.aload_n 0, 1) := by decide +kernel
theorem dX12_two_106 : decode cX12_two 106 = .ok (.iload 7, 2) := by decide +kernel
theorem dX12_two_108 : decode cX12_two 108 = .ok (.iload_n 1, 1) := by decide +kernel
theorem dX12_two_109 : decode cX12_two 109 = .ok (.invokevirtual 151, 3) := by decide +kernel
theorem dX12_two_112 : decode cX12_two 112 = .ok (.iadd, 1) := by decide +kernel
theorem dX12_two_113 : decode cX12_two 113 = .ok (.istore 8, 2) := by decide +kernel
theorem dX12_two_115 : decode cX12_two 115 = .ok (.iload_n 3, 1) := by decide +kernel
theorem dX12_two_116 : decode cX12_two 116 = .ok (.bipush (-9), 2) := by decide +kernel
theorem dX12_two_118 : decode cX12_two 118 = .ok (.if_icmp .eq 10, 3) := by decide +kernel
theorem dX12_two_121 : decode cX12_two 121 = .ok (.iload 8, 2) := by decide +kernel
theorem dX12_two_123 : decode cX12_two 123 = .ok (.iload 5, 2) := by decide +kernel
theorem dX12_two_125 : decode cX12_two 125 = .ok (.if_icmp .ge 14, 3) := by decide +kernel
theorem dX12_two_128 : decode cX12_two 128 = .ok (.iload 6, 2) := by decide +kernel
theorem dX12_two_130 : decode cX12_two 130 = .ok (.istore_n 3, 1) := by decide +kernel
theorem dX12_two_131 : decode cX12_two 131 = .ok (.iload 7, 2) := by decide +kernel
theorem dX12_two_133 : decode cX12_two 133 = .ok (.istore 4, 2) := by decide +kernel
theorem dX12_two_135 : decode cX12_two 135 = .ok (.iload 8, 2) := by decide +kernel
theorem dX12_two_137 : decode cX12_two 137 = .ok (.istore 5, 2) := by decide +kernel
theorem dX12_two_139 : decode cX12_two 139 = .ok (.iinc 7 1, 3) := by decide +kernel
theorem dX12_two_142 : decode cX12_two 142 = .ok (.goto (-82), 3) := by decide +kernel
theorem dX12_two_145 : decode cX12_two 145 = .ok (.iinc 6 1, 3) := by decide +kernel
theorem dX12_two_148 : decode cX12_two 148 = .ok (.goto (-103), 3) := by decide +kernel
theorem dX12_two_151 : decode cX12_two 151 = .ok (.iload_n 2, 1) := by decide +kernel
theorem dX12_two_152 : decode cX12_two 152 = .ok (.ifCond .ne 7, 3) := by decide +kernel
theorem dX12_two_155 : decode cX12_two 155 = .ok (.iload_n 3, 1) := by decide +kernel
theorem dX12_two_156 : decode cX12_two 156 = .ok (.goto 15, 3) := by decide +kernel
theorem dX12_two_159 : decode cX12_two 159 = .ok (.iload_n 2, 1) := by decide +kernel
theorem dX12_two_160 : decode cX12_two 160 = .ok (.iconst 1, 1) := by decide +kernel
theorem dX12_two_161 : decode cX12_two 161 = .ok (.if_icmp .ne 8, 3) := by decide +kernel
theorem dX12_two_164 : decode cX12_two 164 = .ok (.iload 4, 2) := by decide +kernel
theorem dX12_two_166 : decode cX12_two 166 = .ok (.goto 5, 3) := by decide +kernel
theorem dX12_two_169 : decode cX12_two 169 = .ok (.iload 5, 2) := by decide +kernel
theorem dX12_two_171 : decode cX12_two 171 = .ok (.ireturn, 1) := by decide +kernel
theorem dX12_apartOf_0 : decode cX12_apartOf 0 = .ok (.ldc 136, 2) := by decide +kernel
theorem dX12_apartOf_2 : decode cX12_apartOf 2 = .ok (.istore 4, 2) := by decide +kernel
theorem dX12_apartOf_4 : decode cX12_apartOf 4 = .ok (.iconst 0, 1) := by decide +kernel
theorem dX12_apartOf_5 : decode cX12_apartOf 5 = .ok (.istore 5, 2) := by decide +kernel
theorem dX12_apartOf_7 : decode cX12_apartOf 7 = .ok (.iload_n 1, 1) := by decide +kernel
theorem dX12_apartOf_8 : decode cX12_apartOf 8 = .ok (.aload_n 0, 1) := by decide +kernel
theorem dX12_apartOf_9 : decode cX12_apartOf 9 = .ok (.getfield 75, 3) := by decide +kernel
theorem dX12_apartOf_12 : decode cX12_apartOf 12 = .ok (.idiv, 1) := by decide +kernel
theorem dX12_apartOf_13 : decode cX12_apartOf 13 = .ok (.istore 6, 2) := by decide +kernel
theorem dX12_apartOf_15 : decode cX12_apartOf 15 = .ok (.iload 6, 2) := by decide +kernel
theorem dX12_apartOf_17 : decode cX12_apartOf 17 = .ok (.iload_n 2, 1) := by decide +kernel
theorem dX12_apartOf_18 : decode cX12_apartOf 18 = .ok (.aload_n 0, 1) := by decide +kernel
theorem dX12_apartOf_19 : decode cX12_apartOf 19 = .ok (.getfield 75, 3) := by decide +kernel
theorem dX12_apartOf_22 : decode cX12_apartOf 22 = .ok (.idiv, 1) := by decide +kernel
theorem dX12_apartOf_23 : decode cX12_apartOf 23 = .ok (.if_icmp .gt 83, 3) := by decide +kernel
theorem dX12_apartOf_26 : decode cX12_apartOf 26 = .ok (.iload_n 1, 1) := by decide +kernel
theorem dX12_apartOf_27 : decode cX12_apartOf 27 = .ok (.aload_n 0, 1) := by decide +kernel
theorem dX12_apartOf_28 : decode cX12_apartOf 28 = .ok (.getfield 75, 3) := by decide +kernel
theorem dX12_apartOf_31 : decode cX12_apartOf 31 = .ok (.irem, 1) := by decide +kernel
theorem dX12_apartOf_32 : decode cX12_apartOf 32 = .ok (.istore 7, 2) := by decide +kernel
theorem dX12_apartOf_34 : decode cX12_apartOf 34 = .ok (.iload 7, 2) := by decide +kernel
theorem dX12_apartOf_36 : decode cX12_apartOf 36 = .ok (.iload_n 2, 1) := by decide +kernel
theorem dX12_apartOf_37 : decode cX12_apartOf 37 = .ok (.aload_n 0, 1) := by decide +kernel
theorem dX12_apartOf_38 : decode cX12_apartOf 38 = .ok (.getfield 75, 3) := by decide +kernel
theorem dX12_apartOf_41 : decode cX12_apartOf 41 = .ok (.irem, 1) := by decide +kernel
theorem dX12_apartOf_42 : decode cX12_apartOf 42 = .ok (.if_icmp .gt 58, 3) := by decide +kernel
theorem dX12_apartOf_45 : decode cX12_apartOf 45 = .ok (.aload_n 0, 1) := by decide +kernel
theorem dX12_apartOf_46 : decode cX12_apartOf 46 = .ok (.aload_n 0, 1) := by decide +kernel
theorem dX12_apartOf_47 : decode cX12_apartOf 47 = .ok (.getfield 75, 3) := by decide +kernel
theorem dX12_apartOf_50 : decode cX12_apartOf 50 = .ok (.iload 6, 2) := by decide +kernel
theorem dX12_apartOf_52 : decode cX12_apartOf 52 = .ok (.imul, 1) := by decide +kernel
theorem dX12_apartOf_53 : decode cX12_apartOf 53 = .ok (.iload 7, 2) := by decide +kernel
theorem dX12_apartOf_55 : decode cX12_apartOf 55 = .ok (.iadd, 1) := by decide +kernel
theorem dX12_apartOf_56 : decode cX12_apartOf 56 = .ok (.iload_n 3, 1) := by decide +kernel
theorem dX12_apartOf_57 : decode cX12_apartOf 57 = .ok (.invokevirtual 129, 3) := by decide +kernel
theorem dX12_apartOf_60 : decode cX12_apartOf 60 = .ok (.istore 8, 2) := by decide +kernel
theorem dX12_apartOf_62 : decode cX12_apartOf 62 = .ok (.iload 8, 2) := by decide +kernel
theorem dX12_apartOf_64 : decode cX12_apartOf 64 = .ok (.iload 4, 2) := by decide +kernel
theorem dX12_apartOf_66 : decode cX12_apartOf 66 = .ok (.if_icmp .ge 8, 3) := by decide +kernel
theorem dX12_apartOf_69 : decode cX12_apartOf 69 = .ok (.iload 8, 2) := by decide +kernel
theorem dX12_apartOf_71 : decode cX12_apartOf 71 = .ok (.goto 5, 3) := by decide +kernel
theorem dX12_apartOf_74 : decode cX12_apartOf 74 = .ok (.iload 4, 2) := by decide +kernel
theorem dX12_apartOf_76 : decode cX12_apartOf 76 = .ok (.istore 4, 2) := by decide +kernel
theorem dX12_apartOf_78 : decode cX12_apartOf 78 = .ok (.iload 8, 2) := by decide +kernel
theorem dX12_apartOf_80 : decode cX12_apartOf 80 = .ok (.iload 5, 2) := by decide +kernel
theorem dX12_apartOf_82 : decode cX12_apartOf 82 = .ok (.if_icmp .le 8, 3) := by decide +kernel
theorem dX12_apartOf_85 : decode cX12_apartOf 85 = .ok (.iload 8, 2) := by decide +kernel
theorem dX12_apartOf_87 : decode cX12_apartOf 87 = .ok (.goto 5, 3) := by decide +kernel
theorem dX12_apartOf_90 : decode cX12_apartOf 90 = .ok (.iload 5, 2) := by decide +kernel
theorem dX12_apartOf_92 : decode cX12_apartOf 92 = .ok (.istore 5, 2) := by decide +kernel
theorem dX12_apartOf_94 : decode cX12_apartOf 94 = .ok (.iinc 7 1, 3) := by decide +kernel
theorem dX12_apartOf_97 : decode cX12_apartOf 97 = .ok (.goto (-63), 3) := by decide +kernel
theorem dX12_apartOf_100 : decode cX12_apartOf 100 = .ok (.iinc 6 1, 3) := by decide +kernel
theorem dX12_apartOf_103 : decode cX12_apartOf 103 = .ok (.goto (-88), 3) := by decide +kernel
theorem dX12_apartOf_106 : decode cX12_apartOf 106 = .ok (.iload 5, 2) := by decide +kernel
theorem dX12_apartOf_108 : decode cX12_apartOf 108 = .ok (.iload 4, 2) := by decide +kernel
theorem dX12_apartOf_110 : decode cX12_apartOf 110 = .ok (.isub, 1) := by decide +kernel
theorem dX12_apartOf_111 : decode cX12_apartOf 111 = .ok (.ireturn, 1) := by decide +kernel
theorem dX12_oval_0 : decode cX12_oval 0 = .ok (.iload_n 1, 1) := by decide +kernel
theorem dX12_oval_1 : decode cX12_oval 1 = .ok (.invokestatic 123, 3) := by decide +kernel
theorem dX12_oval_4 : decode cX12_oval 4 = .ok (.ifCond .ne 5, 3) := by decide +kernel
theorem dX12_oval_7 : decode cX12_oval 7 = .ok (.iconst (-1), 1) := by decide +kernel
theorem dX12_oval_8 : decode cX12_oval 8 = .ok (.ireturn, 1) := by decide +kernel
theorem dX12_oval_9 : decode cX12_oval 9 = .ok (.iload_n 2, 1) := by decide +kernel
theorem dX12_oval_10 : decode cX12_oval 10 = .ok (.iconst 0, 1) := by decide +kernel
theorem dX12_oval_11 : decode cX12_oval 11 = .ok (.sipush 999, 3) := by decide +kernel
theorem dX12_oval_14 : decode cX12_oval 14 = .ok (.invokestatic 68, 3) := by decide +kernel
theorem dX12_oval_17 : decode cX12_oval 17 = .ok (.ifCond .eq 12, 3) := by decide +kernel
theorem dX12_oval_20 : decode cX12_oval 20 = .ok (.iload_n 3, 1) := by decide +kernel
theorem dX12_oval_21 : decode cX12_oval 21 = .ok (.iconst 0, 1) := by decide +kernel
theorem dX12_oval_22 : decode cX12_oval 22 = .ok (.iconst 2, 1) := by decide +kernel
theorem dX12_oval_23 : decode cX12_oval 23 = .ok (.invokestatic 68, 3) := by decide +kernel
theorem dX12_oval_26 : decode cX12_oval 26 = .ok (.ifCond .ne 6, 3) := by decide +kernel
theorem dX12_oval_29 : decode cX12_oval 29 = .ok (.bipush (-2), 2) := by decide +kernel
theorem dX12_oval_31 : decode cX12_oval 31 = .ok (.ireturn, 1) := by decide +kernel
theorem dX12_oval_32 : decode cX12_oval 32 = .ok (.aload_n 0, 1) := by decide +kernel
theorem dX12_oval_33 : decode cX12_oval 33 = .ok (.invokevirtual 78, 3) := by decide +kernel
theorem dX12_oval_36 : decode cX12_oval 36 = .ok (.ifCond .ne 6, 3) := by decide +kernel
theorem dX12_oval_39 : decode cX12_oval 39 = .ok (.bipush (-3), 2) := by decide +kernel
theorem dX12_oval_41 : decode cX12_oval 41 = .ok (.ireturn, 1) := by decide +kernel
theorem dX12_oval_42 : decode cX12_oval 42 = .ok (.iconst 0, 1) := by decide +kernel
theorem dX12_oval_43 : decode cX12_oval 43 = .ok (.istore 4, 2) := by decide +kernel
theorem dX12_oval_45 : decode cX12_oval 45 = .ok (.iconst 0, 1) := by decide +kernel
theorem dX12_oval_46 : decode cX12_oval 46 = .ok (.istore 5, 2) := by decide +kernel
theorem dX12_oval_48 : decode cX12_oval 48 = .ok (.iconst 0, 1) := by decide +kernel
theorem dX12_oval_49 : decode cX12_oval 49 = .ok (.istore 6, 2) := by decide +kernel
theorem dX12_oval_51 : decode cX12_oval 51 = .ok (.iconst 0, 1) := by decide +kernel
theorem dX12_oval_52 : decode cX12_oval 52 = .ok (.istore 7, 2) := by decide +kernel
theorem dX12_oval_54 : decode cX12_oval 54 = .ok (.iload 7, 2) := by decide +kernel
theorem dX12_oval_56 : decode cX12_oval 56 = .ok (.aload_n 0, 1) := by decide +kernel
theorem dX12_oval_57 : decode cX12_oval 57 = .ok (.invokevirtual 78, 3) := by decide +kernel
theorem dX12_oval_60 : decode cX12_oval 60 = .ok (.if_icmp .ge 114, 3) := by decide +kernel
theorem dX12_oval_63 : decode cX12_oval 63 = .ok (.iload 7, 2) := by decide +kernel
theorem dX12_oval_65 : decode cX12_oval 65 = .ok (.istore 8, 2) := by decide +kernel
theorem dX12_oval_67 : decode cX12_oval 67 = .ok (.iload 8, 2) := by decide +kernel
theorem dX12_oval_69 : decode cX12_oval 69 = .ok (.aload_n 0, 1) := by decide +kernel
theorem dX12_oval_70 : decode cX12_oval 70 = .ok (.invokevirtual 78, 3) := by decide +kernel
theorem dX12_oval_73 : decode cX12_oval 73 = .ok (.if_icmp .ge 95, 3) := by decide +kernel
theorem dX12_oval_76 : decode cX12_oval 76 = .ok (.iload 8, 2) := by decide +kernel
theorem dX12_oval_78 : decode cX12_oval 78 = .ok (.aload_n 0, 1) := by decide +kernel
theorem dX12_oval_79 : decode cX12_oval 79 = .ok (.getfield 75, 3) := by decide +kernel
theorem dX12_oval_82 : decode cX12_oval 82 = .ok (.idiv, 1) := by decide +kernel
theorem dX12_oval_83 : decode cX12_oval 83 = .ok (.iload 7, 2) := by decide +kernel
theorem dX12_oval_85 : decode cX12_oval 85 = .ok (.aload_n 0, 1) := by decide +kernel
theorem dX12_oval_86 : decode cX12_oval 86 = .ok (.getfield 75, 3) := by decide +kernel
theorem dX12_oval_89 : decode cX12_oval 89 = .ok (.idiv, 1) := by decide +kernel
theorem dX12_oval_90 : decode cX12_oval 90 = .ok (.isub, 1) := by decide +kernel
theorem dX12_oval_91 : decode cX12_oval 91 = .ok (.iconst 1, 1) := by decide +kernel
theorem dX12_oval_92 : decode cX12_oval 92 = .ok (.iadd, 1) := by decide +kernel
theorem dX12_oval_93 : decode cX12_oval 93 = .ok (.iload 8, 2) := by decide +kernel
theorem dX12_oval_95 : decode cX12_oval 95 = .ok (.aload_n 0, 1) := by decide +kernel
theorem dX12_oval_96 : decode cX12_oval 96 = .ok (.getfield 75, 3) := by decide +kernel
theorem dX12_oval_99 : decode cX12_oval 99 = .ok (.irem, 1) := by decide +kernel
theorem dX12_oval_100 : decode cX12_oval 100 = .ok (.iload 7, 2) := by decide +kernel
theorem dX12_oval_102 : decode cX12_oval 102 = .ok (.aload_n 0, 1) := by decide +kernel
theorem dX12_oval_103 : decode cX12_oval 103 = .ok (.getfield 75, 3) := by decide +kernel
theorem dX12_oval_106 : decode cX12_oval 106 = .ok (.irem, 1) := by decide +kernel
theorem dX12_oval_107 : decode cX12_oval 107 = .ok (.isub, 1) := by decide +kernel
theorem dX12_oval_108 : decode cX12_oval 108 = .ok (.iconst 1, 1) := by decide +kernel
theorem dX12_oval_109 : decode cX12_oval 109 = .ok (.iadd, 1) := by decide +kernel
theorem dX12_oval_110 : decode cX12_oval 110 = .ok (.imul, 1) := by decide +kernel
theorem dX12_oval_111 : decode cX12_oval 111 = .ok (.istore 9, 2) := by decide +kernel
theorem dX12_oval_113 : decode cX12_oval 113 = .ok (.iload 8, 2) := by decide +kernel
theorem dX12_oval_115 : decode cX12_oval 115 = .ok (.aload_n 0, 1) := by decide +kernel
theorem dX12_oval_116 : decode cX12_oval 116 = .ok (.getfield 75, 3) := by decide +kernel
theorem dX12_oval_119 : decode cX12_oval 119 = .ok (.irem, 1) := by decide +kernel
theorem dX12_oval_120 : decode cX12_oval 120 = .ok (.iload 7, 2) := by decide +kernel
theorem dX12_oval_122 : decode cX12_oval 122 = .ok (.aload_n 0, 1) := by decide +kernel
theorem dX12_oval_123 : decode cX12_oval 123 = .ok (.getfield 75, 3) := by decide +kernel
theorem dX12_oval_126 : decode cX12_oval 126 = .ok (.irem, 1) := by decide +kernel
theorem dX12_oval_127 : decode cX12_oval 127 = .ok (.if_icmp .lt 35, 3) := by decide +kernel
theorem dX12_oval_130 : decode cX12_oval 130 = .ok (.iload 9, 2) := by decide +kernel
theorem dX12_oval_132 : decode cX12_oval 132 = .ok (.iload 4, 2) := by decide +kernel
theorem dX12_oval_134 : decode cX12_oval 134 = .ok (.if_icmp .le 28, 3) := by decide +kernel
theorem dX12_oval_137 : decode cX12_oval 137 = .ok (.aload_n 0, 1) := by decide +kernel
theorem dX12_oval_138 : decode cX12_oval 138 = .ok (.iload 7, 2) := by decide +kernel
theorem dX12_oval_140 : decode cX12_oval 140 = .ok (.iload 8, 2) := by decide +kernel
theorem dX12_oval_142 : decode cX12_oval 142 = .ok (.iload_n 1, 1) := by decide +kernel
theorem dX12_oval_143 : decode cX12_oval 143 = .ok (.invokevirtual 157, 3) := by decide +kernel
theorem dX12_oval_146 : decode cX12_oval 146 = .ok (.iload_n 2, 1) := by decide +kernel
theorem dX12_oval_147 : decode cX12_oval 147 = .ok (.if_icmp .gt 15, 3) := by decide +kernel
theorem dX12_oval_150 : decode cX12_oval 150 = .ok (.iload 9, 2) := by decide +kernel
theorem dX12_oval_152 : decode cX12_oval 152 = .ok (.istore 4, 2) := by decide +kernel
theorem dX12_oval_154 : decode cX12_oval 154 = .ok (.iload 7, 2) := by decide +kernel
theorem dX12_oval_156 : decode cX12_oval 156 = .ok (.istore 5, 2) := by decide +kernel
theorem dX12_oval_158 : decode cX12_oval 158 = .ok (.iload 8, 2) := by decide +kernel
theorem dX12_oval_160 : decode cX12_oval 160 = .ok (.istore 6, 2) := by decide +kernel
theorem dX12_oval_162 : decode cX12_oval 162 = .ok (.iinc 8 1, 3) := by decide +kernel
theorem dX12_oval_165 : decode cX12_oval 165 = .ok (.goto (-98), 3) := by decide +kernel
theorem dX12_oval_168 : decode cX12_oval 168 = .ok (.iinc 7 1, 3) := by decide +kernel
theorem dX12_oval_171 : decode cX12_oval 171 = .ok (.goto (-117), 3) := by decide +kernel
theorem dX12_oval_174 : decode cX12_oval 174 = .ok (.iload_n 3, 1) := by decide +kernel
theorem dX12_oval_175 : decode cX12_oval 175 = .ok (.ifCond .ne 8, 3) := by decide +kernel
theorem dX12_oval_178 : decode cX12_oval 178 = .ok (.iload 4, 2) := by decide +kernel
theorem dX12_oval_180 : decode cX12_oval 180 = .ok (.goto 15, 3) := by decide +kernel
theorem dX12_oval_183 : decode cX12_oval 183 = .ok (.iload_n 3, 1) := by decide +kernel
theorem dX12_oval_184 : decode cX12_oval 184 = .ok (.iconst 1, 1) := by decide +kernel
theorem dX12_oval_185 : decode cX12_oval 185 = .ok (.if_icmp .ne 8, 3) := by decide +kernel
theorem dX12_oval_188 : decode cX12_oval 188 = .ok (.iload 5, 2) := by decide +kernel
theorem dX12_oval_190 : decode cX12_oval 190 = .ok (.goto 5, 3) := by decide +kernel
theorem dX12_oval_193 : decode cX12_oval 193 = .ok (.iload 6, 2) := by decide +kernel
theorem dX12_oval_195 : decode cX12_oval 195 = .ok (.ireturn, 1) := by decide +kernel
theorem dX12_isEdge_0 : decode cX12_isEdge 0 = .ok (.iload_n 1, 1) := by decide +kernel
theorem dX12_isEdge_1 : decode cX12_isEdge 1 = .ok (.aload_n 0, 1) := by decide +kernel
theorem dX12_isEdge_2 : decode cX12_isEdge 2 = .ok (.getfield 75, 3) := by decide +kernel
theorem dX12_isEdge_5 : decode cX12_isEdge 5 = .ok (.idiv, 1) := by decide +kernel
theorem dX12_isEdge_6 : decode cX12_isEdge 6 = .ok (.ifCond .eq 42, 3) := by decide +kernel
theorem dX12_isEdge_9 : decode cX12_isEdge 9 = .ok (.iload_n 1, 1) := by decide +kernel
theorem dX12_isEdge_10 : decode cX12_isEdge 10 = .ok (.aload_n 0, 1) := by decide +kernel
theorem dX12_isEdge_11 : decode cX12_isEdge 11 = .ok (.getfield 75, 3) := by decide +kernel
theorem dX12_isEdge_14 : decode cX12_isEdge 14 = .ok (.idiv, 1) := by decide +kernel
theorem dX12_isEdge_15 : decode cX12_isEdge 15 = .ok (.aload_n 0, 1) := by decide +kernel
theorem dX12_isEdge_16 : decode cX12_isEdge 16 = .ok (.getfield 72, 3) := by decide +kernel
theorem dX12_isEdge_19 : decode cX12_isEdge 19 = .ok (.iconst 1, 1) := by decide +kernel
theorem dX12_isEdge_20 : decode cX12_isEdge 20 = .ok (.isub, 1) := by decide +kernel
theorem dX12_isEdge_21 : decode cX12_isEdge 21 = .ok (.if_icmp .eq 27, 3) := by decide +kernel
theorem dX12_isEdge_24 : decode cX12_isEdge 24 = .ok (.iload_n 1, 1) := by decide +kernel
theorem dX12_isEdge_25 : decode cX12_isEdge 25 = .ok (.aload_n 0, 1) := by decide +kernel
theorem dX12_isEdge_26 : decode cX12_isEdge 26 = .ok (.getfield 75, 3) := by decide +kernel
theorem dX12_isEdge_29 : decode cX12_isEdge 29 = .ok (.irem, 1) := by decide +kernel
theorem dX12_isEdge_30 : decode cX12_isEdge 30 = .ok (.ifCond .eq 18, 3) := by decide +kernel
theorem dX12_isEdge_33 : decode cX12_isEdge 33 = .ok (.iload_n 1, 1) := by decide +kernel
theorem dX12_isEdge_34 : decode cX12_isEdge 34 = .ok (.aload_n 0, 1) := by decide +kernel
theorem dX12_isEdge_35 : decode cX12_isEdge 35 = .ok (.getfield 75, 3) := by decide +kernel
theorem dX12_isEdge_38 : decode cX12_isEdge 38 = .ok (.irem, 1) := by decide +kernel
theorem dX12_isEdge_39 : decode cX12_isEdge 39 = .ok (.aload_n 0, 1) := by decide +kernel
theorem dX12_isEdge_40 : decode cX12_isEdge 40 = .ok (.getfield 75, 3) := by decide +kernel
theorem dX12_isEdge_43 : decode cX12_isEdge 43 = .ok (.iconst 1, 1) := by decide +kernel
theorem dX12_isEdge_44 : decode cX12_isEdge 44 = .ok (.isub, 1) := by decide +kernel
theorem dX12_isEdge_45 : decode cX12_isEdge 45 = .ok (.if_icmp .ne 7, 3) := by decide +kernel
theorem dX12_isEdge_48 : decode cX12_isEdge 48 = .ok (.iconst 1, 1) := by decide +kernel
theorem dX12_isEdge_49 : decode cX12_isEdge 49 = .ok (.goto 4, 3) := by decide +kernel
theorem dX12_isEdge_52 : decode cX12_isEdge 52 = .ok (.iconst 0, 1) := by decide +kernel
theorem dX12_isEdge_53 : decode cX12_isEdge 53 = .ok (.ireturn, 1) := by decide +kernel
theorem dX12_findWater_0 : decode cX12_findWater 0 = .ok (.iconst 0, 1) := by decide +kernel
theorem dX12_findWater_1 : decode cX12_findWater 1 = .ok (.istore_n 2, 1) := by decide +kernel
theorem dX12_findWater_2 : decode cX12_findWater 2 = .ok (.iload_n 2, 1) := by decide +kernel
theorem dX12_findWater_3 : decode cX12_findWater 3 = .ok (.aload_n 0, 1) := by decide +kernel
theorem dX12_findWater_4 : decode cX12_findWater 4 = .ok (.invokevirtual 78, 3) := by decide +kernel
theorem dX12_findWater_7 : decode cX12_findWater 7 = .ok (.if_icmp .ge 34, 3) := by decide +kernel
theorem dX12_findWater_10 : decode cX12_findWater 10 = .ok (.aload_n 0, 1) := by decide +kernel
theorem dX12_findWater_11 : decode cX12_findWater 11 = .ok (.getfield 43, 3) := by decide +kernel
theorem dX12_findWater_14 : decode cX12_findWater 14 = .ok (.iload_n 2, 1) := by decide +kernel
theorem dX12_findWater_15 : decode cX12_findWater 15 = .ok (.aload_n 0, 1) := by decide +kernel
theorem dX12_findWater_16 : decode cX12_findWater 16 = .ok (.iload_n 2, 1) := by decide +kernel
theorem dX12_findWater_17 : decode cX12_findWater 17 = .ok (.invokevirtual 160, 3) := by decide +kernel
theorem dX12_findWater_20 : decode cX12_findWater 20 = .ok (.ifCond .eq 12, 3) := by decide +kernel
theorem dX12_findWater_23 : decode cX12_findWater 23 = .ok (.aload_n 0, 1) := by decide +kernel
theorem dX12_findWater_24 : decode cX12_findWater 24 = .ok (.iload_n 2, 1) := by decide +kernel
theorem dX12_findWater_25 : decode cX12_findWater 25 = .ok (.iload_n 1, 1) := by decide +kernel
theorem dX12_findWater_26 : decode cX12_findWater 26 = .ok (.invokevirtual 129, 3) := by decide +kernel
theorem dX12_findWater_29 : decode cX12_findWater 29 = .ok (.goto 5, 3) := by decide +kernel
theorem dX12_findWater_32 : decode cX12_findWater 32 = .ok (.ldc 136, 2) := by decide +kernel
theorem dX12_findWater_34 : decode cX12_findWater 34 = .ok (.iastore, 1) := by decide +kernel
theorem dX12_findWater_35 : decode cX12_findWater 35 = .ok (.iinc 2 1, 3) := by decide +kernel
theorem dX12_findWater_38 : decode cX12_findWater 38 = .ok (.goto (-36), 3) := by decide +kernel
theorem dX12_findWater_41 : decode cX12_findWater 41 = .ok (.iconst 0, 1) := by decide +kernel
theorem dX12_findWater_42 : decode cX12_findWater 42 = .ok (.istore_n 2, 1) := by decide +kernel
theorem dX12_findWater_43 : decode cX12_findWater 43 = .ok (.iload_n 2, 1) := by decide +kernel
theorem dX12_findWater_44 : decode cX12_findWater 44 = .ok (.aload_n 0, 1) := by decide +kernel
theorem dX12_findWater_45 : decode cX12_findWater 45 = .ok (.invokevirtual 78, 3) := by decide +kernel
theorem dX12_findWater_48 : decode cX12_findWater 48 = .ok (.if_icmp .ge 126, 3) := by decide +kernel
theorem dX12_findWater_51 : decode cX12_findWater 51 = .ok (.iconst 0, 1) := by decide +kernel
theorem dX12_findWater_52 : decode cX12_findWater 52 = .ok (.istore_n 3, 1) := by decide +kernel
theorem dX12_findWater_53 : decode cX12_findWater 53 = .ok (.iload_n 3, 1) := by decide +kernel
theorem dX12_findWater_54 : decode cX12_findWater 54 = .ok (.aload_n 0, 1) := by decide +kernel
theorem dX12_findWater_55 : decode cX12_findWater 55 = .ok (.invokevirtual 78, 3) := by decide +kernel
theorem dX12_findWater_58 : decode cX12_findWater 58 = .ok (.if_icmp .ge 110, 3) := by decide +kernel
theorem dX12_findWater_61 : decode cX12_findWater 61 = .ok (.iconst 0, 1) := by decide +kernel
theorem dX12_findWater_62 : decode cX12_findWater 62 = .ok (.istore 4, 2) := by decide +kernel
theorem dX12_findWater_64 : decode cX12_findWater 64 = .ok (.iload 4, 2) := by decide +kernel
theorem dX12_findWater_66 : decode cX12_findWater 66 = .ok (.iconst 4, 1) := by decide +kernel
theorem dX12_findWater_67 : decode cX12_findWater 67 = .ok (.if_icmp .ge 95, 3) := by decide +kernel
theorem dX12_findWater_70 : decode cX12_findWater 70 = .ok (.aload_n 0, 1) := by decide +kernel
theorem dX12_findWater_71 : decode cX12_findWater 71 = .ok (.iload_n 3, 1) := by decide +kernel
theorem dX12_findWater_72 : decode cX12_findWater 72 = .ok (.iload 4, 2) := by decide +kernel
theorem dX12_findWater_74 : decode cX12_findWater 74 = .ok (.invokevirtual 137, 3) := by decide +kernel
theorem dX12_findWater_77 : decode cX12_findWater 77 = .ok (.istore 5, 2) := by decide +kernel
theorem dX12_findWater_79 : decode cX12_findWater 79 = .ok (.iload 5, 2) := by decide +kernel
theorem dX12_findWater_81 : decode cX12_findWater 81 = .ok (.bipush (-9), 2) := by decide +kernel
theorem dX12_findWater_83 : decode cX12_findWater 83 = .ok (.if_icmp .eq 73, 3) := by decide +kernel
theorem dX12_findWater_86 : decode cX12_findWater 86 = .ok (.aload_n 0, 1) := by decide +kernel
theorem dX12_findWater_87 : decode cX12_findWater 87 = .ok (.iload_n 3, 1) := by decide +kernel
theorem dX12_findWater_88 : decode cX12_findWater 88 = .ok (.invokevirtual 160, 3) := by decide +kernel
theorem dX12_findWater_91 : decode cX12_findWater 91 = .ok (.ifCond .ne 65, 3) := by decide +kernel
theorem dX12_findWater_94 : decode cX12_findWater 94 = .ok (.aload_n 0, 1) := by decide +kernel
theorem dX12_findWater_95 : decode cX12_findWater 95 = .ok (.getfield 43, 3) := by decide +kernel
theorem dX12_findWater_98 : decode cX12_findWater 98 = .ok (.iload 5, 2) := by decide +kernel
theorem dX12_findWater_100 : decode cX12_findWater 100 = .ok (.iaload, 1) := by decide +kernel
theorem dX12_findWater_101 : decode cX12_findWater 101 = .ok (.aload_n 0, 1) := by decide +kernel
theorem dX12_findWater_102 : decode cX12_findWater 102 = .ok (.iload_n 3, 1) := by decide +kernel
theorem dX12_findWater_103 : decode cX12_findWater 103 = .ok (.iload_n 1, 1) := by decide +kernel
theorem dX12_findWater_104 : decode cX12_findWater 104 = .ok (.invokevirtual 129, 3) := by decide +kernel
theorem dX12_findWater_107 : decode cX12_findWater 107 = .ok (.if_icmp .le 13, 3) := by decide +kernel
theorem dX12_findWater_110 : decode cX12_findWater 110 = .ok (.aload_n 0, 1) := by decide +kernel
theorem dX12_findWater_111 : decode cX12_findWater 111 = .ok (.getfield 43, 3) := by decide +kernel
theorem dX12_findWater_114 : decode cX12_findWater 114 = .ok (.iload 5, 2) := by decide +kernel
theorem dX12_findWater_116 : decode cX12_findWater 116 = .ok (.iaload, 1) := by decide +kernel
theorem dX12_findWater_117 : decode cX12_findWater 117 = .ok (.goto 9, 3) := by decide +kernel
theorem dX12_findWater_120 : decode cX12_findWater 120 = .ok (.aload_n 0, 1) := by decide +kernel
theorem dX12_findWater_121 : decode cX12_findWater 121 = .ok (.iload_n 3, 1) := by decide +kernel
theorem dX12_findWater_122 : decode cX12_findWater 122 = .ok (.iload_n 1, 1) := by decide +kernel
theorem dX12_findWater_123 : decode cX12_findWater 123 = .ok (.invokevirtual 129, 3) := by decide +kernel
theorem dX12_findWater_126 : decode cX12_findWater 126 = .ok (.istore 6, 2) := by decide +kernel
theorem dX12_findWater_128 : decode cX12_findWater 128 = .ok (.aload_n 0, 1) := by decide +kernel
theorem dX12_findWater_129 : decode cX12_findWater 129 = .ok (.getfield 43, 3) := by decide +kernel
theorem dX12_findWater_132 : decode cX12_findWater 132 = .ok (.iload_n 3, 1) := by decide +kernel
theorem dX12_findWater_133 : decode cX12_findWater 133 = .ok (.iload 6, 2) := by decide +kernel
theorem dX12_findWater_135 : decode cX12_findWater 135 = .ok (.aload_n 0, 1) := by decide +kernel
theorem dX12_findWater_136 : decode cX12_findWater 136 = .ok (.getfield 43, 3) := by decide +kernel
theorem dX12_findWater_139 : decode cX12_findWater 139 = .ok (.iload_n 3, 1) := by decide +kernel
theorem dX12_findWater_140 : decode cX12_findWater 140 = .ok (.iaload, 1) := by decide +kernel
theorem dX12_findWater_141 : decode cX12_findWater 141 = .ok (.if_icmp .ge 8, 3) := by decide +kernel
theorem dX12_findWater_144 : decode cX12_findWater 144 = .ok (.iload 6, 2) := by decide +kernel
theorem dX12_findWater_146 : decode cX12_findWater 146 = .ok (.goto 9, 3) := by decide +kernel
theorem dX12_findWater_149 : decode cX12_findWater 149 = .ok (.aload_n 0, 1) := by decide +kernel
theorem dX12_findWater_150 : decode cX12_findWater 150 = .ok (.getfield 43, 3) := by decide +kernel
theorem dX12_findWater_153 : decode cX12_findWater 153 = .ok (.iload_n 3, 1) := by decide +kernel
theorem dX12_findWater_154 : decode cX12_findWater 154 = .ok (.iaload, 1) := by decide +kernel
theorem dX12_findWater_155 : decode cX12_findWater 155 = .ok (.iastore, 1) := by decide +kernel
theorem dX12_findWater_156 : decode cX12_findWater 156 = .ok (.iinc 4 1, 3) := by decide +kernel
theorem dX12_findWater_159 : decode cX12_findWater 159 = .ok (.goto (-95), 3) := by decide +kernel
theorem dX12_findWater_162 : decode cX12_findWater 162 = .ok (.iinc 3 1, 3) := by decide +kernel
theorem dX12_findWater_165 : decode cX12_findWater 165 = .ok (.goto (-112), 3) := by decide +kernel
theorem dX12_findWater_168 : decode cX12_findWater 168 = .ok (.iinc 2 1, 3) := by decide +kernel
theorem dX12_findWater_171 : decode cX12_findWater 171 = .ok (.goto (-128), 3) := by decide +kernel
theorem dX12_findWater_174 : decode cX12_findWater 174 = .ok (.return_, 1) := by decide +kernel
theorem dX12_depth_0 : decode cX12_depth 0 = .ok (.aload_n 0, 1) := by decide +kernel
theorem dX12_depth_1 : decode cX12_depth 1 = .ok (.iload_n 1, 1) := by decide +kernel
theorem dX12_depth_2 : decode cX12_depth 2 = .ok (.invokevirtual 120, 3) := by decide +kernel
theorem dX12_depth_5 : decode cX12_depth 5 = .ok (.ifCond .eq 10, 3) := by decide +kernel
theorem dX12_depth_8 : decode cX12_depth 8 = .ok (.iload_n 2, 1) := by decide +kernel
theorem dX12_depth_9 : decode cX12_depth 9 = .ok (.invokestatic 123, 3) := by decide +kernel
theorem dX12_depth_12 : decode cX12_depth 12 = .ok (.ifCond .ne 5, 3) := by decide +kernel
theorem dX12_depth_15 : decode cX12_depth 15 = .ok (.iconst (-1), 1) := by decide +kernel
theorem dX12_depth_16 : decode cX12_depth 16 = .ok (.ireturn, 1) := by decide +kernel
theorem dX12_depth_17 : decode cX12_depth 17 = .ok (.aload_n 0, 1) := by decide +kernel
theorem dX12_depth_18 : decode cX12_depth 18 = .ok (.iload_n 2, 1) := by decide +kernel
theorem dX12_depth_19 : decode cX12_depth 19 = .ok (.invokevirtual 163, 3) := by decide +kernel
theorem dX12_depth_22 : decode cX12_depth 22 = .ok (.aload_n 0, 1) := by decide +kernel
theorem dX12_depth_23 : decode cX12_depth 23 = .ok (.getfield 43, 3) := by decide +kernel
theorem dX12_depth_26 : decode cX12_depth 26 = .ok (.iload_n 1, 1) := by decide +kernel
theorem dX12_depth_27 : decode cX12_depth 27 = .ok (.iaload, 1) := by decide +kernel
theorem dX12_depth_28 : decode cX12_depth 28 = .ok (.aload_n 0, 1) := by decide +kernel
theorem dX12_depth_29 : decode cX12_depth 29 = .ok (.iload_n 1, 1) := by decide +kernel
theorem dX12_depth_30 : decode cX12_depth 30 = .ok (.iload_n 2, 1) := by decide +kernel
theorem dX12_depth_31 : decode cX12_depth 31 = .ok (.invokevirtual 129, 3) := by decide +kernel
theorem dX12_depth_34 : decode cX12_depth 34 = .ok (.isub, 1) := by decide +kernel
theorem dX12_depth_35 : decode cX12_depth 35 = .ok (.ireturn, 1) := by decide +kernel
theorem dX12_poolOf_0 : decode cX12_poolOf 0 = .ok (.aload_n 0, 1) := by decide +kernel
theorem dX12_poolOf_1 : decode cX12_poolOf 1 = .ok (.iload_n 1, 1) := by decide +kernel
theorem dX12_poolOf_2 : decode cX12_poolOf 2 = .ok (.invokevirtual 163, 3) := by decide +kernel
theorem dX12_poolOf_5 : decode cX12_poolOf 5 = .ok (.iconst 0, 1) := by decide +kernel
theorem dX12_poolOf_6 : decode cX12_poolOf 6 = .ok (.istore_n 2, 1) := by decide +kernel
theorem dX12_poolOf_7 : decode cX12_poolOf 7 = .ok (.iconst 0, 1) := by decide +kernel
theorem dX12_poolOf_8 : decode cX12_poolOf 8 = .ok (.istore_n 3, 1) := by decide +kernel
theorem dX12_poolOf_9 : decode cX12_poolOf 9 = .ok (.iload_n 3, 1) := by decide +kernel
theorem dX12_poolOf_10 : decode cX12_poolOf 10 = .ok (.aload_n 0, 1) := by decide +kernel
theorem dX12_poolOf_11 : decode cX12_poolOf 11 = .ok (.invokevirtual 78, 3) := by decide +kernel
theorem dX12_poolOf_14 : decode cX12_poolOf 14 = .ok (.if_icmp .ge 25, 3) := by decide +kernel
theorem dX12_poolOf_17 : decode cX12_poolOf 17 = .ok (.iload_n 2, 1) := by decide +kernel
theorem dX12_poolOf_18 : decode cX12_poolOf 18 = .ok (.aload_n 0, 1) := by decide +kernel
theorem dX12_poolOf_19 : decode cX12_poolOf 19 = .ok (.getfield 43, 3) := by decide +kernel
theorem dX12_poolOf_22 : decode cX12_poolOf 22 = .ok (.iload_n 3, 1) := by decide +kernel
theorem dX12_poolOf_23 : decode cX12_poolOf 23 = .ok (.iaload, 1) := by decide +kernel
theorem dX12_poolOf_24 : decode cX12_poolOf 24 = .ok (.aload_n 0, 1) := by decide +kernel
theorem dX12_poolOf_25 : decode cX12_poolOf 25 = .ok (.iload_n 3, 1) := by decide +kernel
theorem dX12_poolOf_26 : decode cX12_poolOf 26 = .ok (.iload_n 1, 1) := by decide +kernel
theorem dX12_poolOf_27 : decode cX12_poolOf 27 = .ok (.invokevirtual 129, 3) := by decide +kernel
theorem dX12_poolOf_30 : decode cX12_poolOf 30 = .ok (.isub, 1) := by decide +kernel
theorem dX12_poolOf_31 : decode cX12_poolOf 31 = .ok (.iadd, 1) := by decide +kernel
theorem dX12_poolOf_32 : decode cX12_poolOf 32 = .ok (.istore_n 2, 1) := by decide +kernel
theorem dX12_poolOf_33 : decode cX12_poolOf 33 = .ok (.iinc 3 1, 3) := by decide +kernel
theorem dX12_poolOf_36 : decode cX12_poolOf 36 = .ok (.goto (-27), 3) := by decide +kernel
theorem dX12_poolOf_39 : decode cX12_poolOf 39 = .ok (.iload_n 2, 1) := by decide +kernel
theorem dX12_poolOf_40 : decode cX12_poolOf 40 = .ok (.ireturn, 1) := by decide +kernel
theorem dX12_pool_0 : decode cX12_pool 0 = .ok (.iload_n 1, 1) := by decide +kernel
theorem dX12_pool_1 : decode cX12_pool 1 = .ok (.invokestatic 123, 3) := by decide +kernel
theorem dX12_pool_4 : decode cX12_pool 4 = .ok (.ifCond .ne 5, 3) := by decide +kernel
theorem dX12_pool_7 : decode cX12_pool 7 = .ok (.iconst (-1), 1) := by decide +kernel
theorem dX12_pool_8 : decode cX12_pool 8 = .ok (.ireturn, 1) := by decide +kernel
theorem dX12_pool_9 : decode cX12_pool 9 = .ok (.aload_n 0, 1) := by decide +kernel
theorem dX12_pool_10 : decode cX12_pool 10 = .ok (.invokevirtual 78, 3) := by decide +kernel
theorem dX12_pool_13 : decode cX12_pool 13 = .ok (.ifCond .ne 8, 3) := by decide +kernel
theorem dX12_pool_16 : decode cX12_pool 16 = .ok (.bipush (-3), 2) := by decide +kernel
theorem dX12_pool_18 : decode cX12_pool 18 = .ok (.goto 8, 3) := by decide +kernel
theorem dX12_pool_21 : decode cX12_pool 21 = .ok (.aload_n 0, 1) := by decide +kernel
theorem dX12_pool_22 : decode cX12_pool 22 = .ok (.iload_n 1, 1) := by decide +kernel
theorem dX12_pool_23 : decode cX12_pool 23 = .ok (.invokevirtual 167, 3) := by decide +kernel
theorem dX12_pool_26 : decode cX12_pool 26 = .ok (.ireturn, 1) := by decide +kernel
theorem dX12_drain_0 : decode cX12_drain 0 = .ok (.iload_n 1, 1) := by decide +kernel
theorem dX12_drain_1 : decode cX12_drain 1 = .ok (.invokestatic 123, 3) := by decide +kernel
theorem dX12_drain_4 : decode cX12_drain 4 = .ok (.ifCond .ne 5, 3) := by decide +kernel
theorem dX12_drain_7 : decode cX12_drain 7 = .ok (.iconst (-1), 1) := by decide +kernel
theorem dX12_drain_8 : decode cX12_drain 8 = .ok (.ireturn, 1) := by decide +kernel
theorem dX12_drain_9 : decode cX12_drain 9 = .ok (.iload_n 2, 1) := by decide +kernel
theorem dX12_drain_10 : decode cX12_drain 10 = .ok (.iconst 1, 1) := by decide +kernel
theorem dX12_drain_11 : decode cX12_drain 11 = .ok (.bipush 99, 2) := by decide +kernel
theorem dX12_drain_13 : decode cX12_drain 13 = .ok (.invokestatic 68, 3) := by decide +kernel
theorem dX12_drain_16 : decode cX12_drain 16 = .ok (.ifCond .eq 12, 3) := by decide +kernel
theorem dX12_drain_19 : decode cX12_drain 19 = .ok (.iload_n 3, 1) := by decide +kernel
theorem dX12_drain_20 : decode cX12_drain 20 = .ok (.iconst 0, 1) := by decide +kernel
theorem dX12_drain_21 : decode cX12_drain 21 = .ok (.iconst 1, 1) := by decide +kernel
theorem dX12_drain_22 : decode cX12_drain 22 = .ok (.invokestatic 68, 3) := by decide +kernel
theorem dX12_drain_25 : decode cX12_drain 25 = .ok (.ifCond .ne 6, 3) := by decide +kernel
theorem dX12_drain_28 : decode cX12_drain 28 = .ok (.bipush (-2), 2) := by decide +kernel
theorem dX12_drain_30 : decode cX12_drain 30 = .ok (.ireturn, 1) := by decide +kernel
theorem dX12_drain_31 : decode cX12_drain 31 = .ok (.aload_n 0, 1) := by decide +kernel
theorem dX12_drain_32 : decode cX12_drain 32 = .ok (.invokevirtual 78, 3) := by decide +kernel
theorem dX12_drain_35 : decode cX12_drain 35 = .ok (.ifCond .ne 6, 3) := by decide +kernel
theorem dX12_drain_38 : decode cX12_drain 38 = .ok (.bipush (-3), 2) := by decide +kernel
theorem dX12_drain_40 : decode cX12_drain 40 = .ok (.ireturn, 1) := by decide +kernel
theorem dX12_drain_41 : decode cX12_drain 41 = .ok (.bipush (-9), 2) := by decide +kernel
theorem dX12_drain_43 : decode cX12_drain 43 = .ok (.istore 4, 2) := by decide +kernel
theorem dX12_drain_45 : decode cX12_drain 45 = .ok (.bipush (-9), 2) := by decide +kernel
theorem dX12_drain_47 : decode cX12_drain 47 = .ok (.istore 5, 2) := by decide +kernel
theorem dX12_drain_49 : decode cX12_drain 49 = .ok (.iconst 0, 1) := by decide +kernel
theorem dX12_drain_50 : decode cX12_drain 50 = .ok (.istore 6, 2) := by decide +kernel
theorem dX12_drain_52 : decode cX12_drain 52 = .ok (.iload 6, 2) := by decide +kernel
theorem dX12_drain_54 : decode cX12_drain 54 = .ok (.aload_n 0, 1) := by decide +kernel
theorem dX12_drain_55 : decode cX12_drain 55 = .ok (.invokevirtual 78, 3) := by decide +kernel
theorem dX12_drain_58 : decode cX12_drain 58 = .ok (.if_icmp .ge 60, 3) := by decide +kernel
theorem dX12_drain_61 : decode cX12_drain 61 = .ok (.aload_n 0, 1) := by decide +kernel
theorem dX12_drain_62 : decode cX12_drain 62 = .ok (.getfield 25, 3) := by decide +kernel
theorem dX12_drain_65 : decode cX12_drain 65 = .ok (.iload 6, 2) := by decide +kernel
theorem dX12_drain_67 : decode cX12_drain 67 = .ok (.dup2, 1) := by decide +kernel
theorem dX12_drain_68 : decode cX12_drain 68 = .ok (.iaload, 1) := by decide +kernel
theorem dX12_drain_69 : decode cX12_drain 69 = .ok (.iload_n 2, 1) := by decide +kernel
theorem dX12_drain_70 : decode cX12_drain 70 = .ok (.iadd, 1) := by decide +kernel
theorem dX12_drain_71 : decode cX12_drain 71 = .ok (.iastore, 1) := by decide +kernel
theorem dX12_drain_72 : decode cX12_drain 72 = .ok (.aload_n 0, 1) := by decide +kernel
theorem dX12_drain_73 : decode cX12_drain 73 = .ok (.iload_n 1, 1) := by decide +kernel
theorem dX12_drain_74 : decode cX12_drain 74 = .ok (.invokevirtual 167, 3) := by decide +kernel
theorem dX12_drain_77 : decode cX12_drain 77 = .ok (.istore 7, 2) := by decide +kernel
theorem dX12_drain_79 : decode cX12_drain 79 = .ok (.aload_n 0, 1) := by decide +kernel
theorem dX12_drain_80 : decode cX12_drain 80 = .ok (.getfield 25, 3) := by decide +kernel
theorem dX12_drain_83 : decode cX12_drain 83 = .ok (.iload 6, 2) := by decide +kernel
theorem dX12_drain_85 : decode cX12_drain 85 = .ok (.dup2, 1) := by decide +kernel
theorem dX12_drain_86 : decode cX12_drain 86 = .ok (.iaload, 1) := by decide +kernel
theorem dX12_drain_87 : decode cX12_drain 87 = .ok (.iload_n 2, 1) := by decide +kernel
theorem dX12_drain_88 : decode cX12_drain 88 = .ok (.isub, 1) := by decide +kernel
theorem dX12_drain_89 : decode cX12_drain 89 = .ok (.iastore, 1) := by decide +kernel
theorem dX12_drain_90 : decode cX12_drain 90 = .ok (.iload 4, 2) := by decide +kernel
theorem dX12_drain_92 : decode cX12_drain 92 = .ok (.bipush (-9), 2) := by decide +kernel
theorem dX12_drain_94 : decode cX12_drain 94 = .ok (.if_icmp .eq 10, 3) := by decide +kernel
theorem dX12_drain_97 : decode cX12_drain 97 = .ok (.iload 7, 2) := by decide +kernel
theorem dX12_drain_99 : decode cX12_drain 99 = .ok (.iload 5, 2) := by decide +kernel
theorem dX12_drain_101 : decode cX12_drain 101 = .ok (.if_icmp .ge 11, 3) := by decide +kernel
theorem dX12_drain_104 : decode cX12_drain 104 = .ok (.iload 6, 2) := by decide +kernel
theorem dX12_drain_106 : decode cX12_drain 106 = .ok (.istore 4, 2) := by decide +kernel
theorem dX12_drain_108 : decode cX12_drain 108 = .ok (.iload 7, 2) := by decide +kernel
theorem dX12_drain_110 : decode cX12_drain 110 = .ok (.istore 5, 2) := by decide +kernel
theorem dX12_drain_112 : decode cX12_drain 112 = .ok (.iinc 6 1, 3) := by decide +kernel
theorem dX12_drain_115 : decode cX12_drain 115 = .ok (.goto (-63), 3) := by decide +kernel
theorem dX12_drain_118 : decode cX12_drain 118 = .ok (.iload_n 3, 1) := by decide +kernel
theorem dX12_drain_119 : decode cX12_drain 119 = .ok (.ifCond .ne 8, 3) := by decide +kernel
theorem dX12_drain_122 : decode cX12_drain 122 = .ok (.iload 4, 2) := by decide +kernel
theorem dX12_drain_124 : decode cX12_drain 124 = .ok (.goto 5, 3) := by decide +kernel
theorem dX12_drain_127 : decode cX12_drain 127 = .ok (.iload 5, 2) := by decide +kernel
theorem dX12_drain_129 : decode cX12_drain 129 = .ok (.ireturn, 1) := by decide +kernel
theorem dX12_areBeside_0 : decode cX12_areBeside 0 = .ok (.iconst 0, 1) := by decide +kernel
theorem dX12_areBeside_1 : decode cX12_areBeside 1 = .ok (.istore_n 3, 1) := by decide +kernel
theorem dX12_areBeside_2 : decode cX12_areBeside 2 = .ok (.iload_n 3, 1) := by decide +kernel
theorem dX12_areBeside_3 : decode cX12_areBeside 3 = .ok (.iconst 4, 1) := by decide +kernel
theorem dX12_areBeside_4 : decode cX12_areBeside 4 = .ok (.if_icmp .ge 21, 3) := by decide +kernel
theorem dX12_areBeside_7 : decode cX12_areBeside 7 = .ok (.aload_n 0, 1) := by decide +kernel
theorem dX12_areBeside_8 : decode cX12_areBeside 8 = .ok (.iload_n 1, 1) := by decide +kernel
theorem dX12_areBeside_9 : decode cX12_areBeside 9 = .ok (.iload_n 3, 1) := by decide +kernel
theorem dX12_areBeside_10 : decode cX12_areBeside 10 = .ok (.invokevirtual 137, 3) := by decide +kernel
theorem dX12_areBeside_13 : decode cX12_areBeside 13 = .ok (.iload_n 2, 1) := by decide +kernel
theorem dX12_areBeside_14 : decode cX12_areBeside 14 = .ok (.if_icmp .ne 5, 3) := by decide +kernel
theorem dX12_areBeside_17 : decode cX12_areBeside 17 = .ok (.iconst 1, 1) := by decide +kernel
theorem dX12_areBeside_18 : decode cX12_areBeside 18 = .ok (.ireturn, 1) := by decide +kernel
theorem dX12_areBeside_19 : decode cX12_areBeside 19 = .ok (.iinc 3 1, 3) := by decide +kernel
theorem dX12_areBeside_22 : decode cX12_areBeside 22 = .ok (.goto (-20), 3) := by decide +kernel
theorem dX12_areBeside_25 : decode cX12_areBeside 25 = .ok (.iconst 0, 1) := by decide +kernel
theorem dX12_areBeside_26 : decode cX12_areBeside 26 = .ok (.ireturn, 1) := by decide +kernel
theorem dX12_statue_0 : decode cX12_statue 0 = .ok (.aload_n 0, 1) := by decide +kernel
theorem dX12_statue_1 : decode cX12_statue 1 = .ok (.iload_n 1, 1) := by decide +kernel
theorem dX12_statue_2 : decode cX12_statue 2 = .ok (.invokevirtual 120, 3) := by decide +kernel
theorem dX12_statue_5 : decode cX12_statue 5 = .ok (.ifCond .eq 11, 3) := by decide +kernel
theorem dX12_statue_8 : decode cX12_statue 8 = .ok (.aload_n 0, 1) := by decide +kernel
theorem dX12_statue_9 : decode cX12_statue 9 = .ok (.iload_n 2, 1) := by decide +kernel
theorem dX12_statue_10 : decode cX12_statue 10 = .ok (.invokevirtual 120, 3) := by decide +kernel
theorem dX12_statue_13 : decode cX12_statue 13 = .ok (.ifCond .ne 5, 3) := by decide +kernel
theorem dX12_statue_16 : decode cX12_statue 16 = .ok (.iconst (-1), 1) := by decide +kernel
theorem dX12_statue_17 : decode cX12_statue 17 = .ok (.ireturn, 1) := by decide +kernel
theorem dX12_statue_18 : decode cX12_statue 18 = .ok (.iload_n 3, 1) := by decide +kernel
theorem dX12_statue_19 : decode cX12_statue 19 = .ok (.iconst 0, 1) := by decide +kernel
theorem dX12_statue_20 : decode cX12_statue 20 = .ok (.sipush 999, 3) := by decide +kernel
theorem dX12_statue_23 : decode cX12_statue 23 = .ok (.invokestatic 68, 3) := by decide +kernel
theorem dX12_statue_26 : decode cX12_statue 26 = .ok (.ifCond .ne 6, 3) := by decide +kernel
theorem dX12_statue_29 : decode cX12_statue 29 = .ok (.bipush (-2), 2) := by decide +kernel
theorem dX12_statue_31 : decode cX12_statue 31 = .ok (.ireturn, 1) := by decide +kernel
theorem dX12_statue_32 : decode cX12_statue 32 = .ok (.aload_n 0, 1) := by decide +kernel
theorem dX12_statue_33 : decode cX12_statue 33 = .ok (.iload_n 1, 1) := by decide +kernel
theorem dX12_statue_34 : decode cX12_statue 34 = .ok (.iload_n 2, 1) := by decide +kernel
theorem dX12_statue_35 : decode cX12_statue 35 = .ok (.invokevirtual 170, 3) := by decide +kernel
theorem dX12_statue_38 : decode cX12_statue 38 = .ok (.ifCond .ne 6, 3) := by decide +kernel
theorem dX12_statue_41 : decode cX12_statue 41 = .ok (.bipush (-3), 2) := by decide +kernel
theorem dX12_statue_43 : decode cX12_statue 43 = .ok (.ireturn, 1) := by decide +kernel
theorem dX12_statue_44 : decode cX12_statue 44 = .ok (.iconst 0, 1) := by decide +kernel
theorem dX12_statue_45 : decode cX12_statue 45 = .ok (.istore 4, 2) := by decide +kernel
theorem dX12_statue_47 : decode cX12_statue 47 = .ok (.iload 4, 2) := by decide +kernel
theorem dX12_statue_49 : decode cX12_statue 49 = .ok (.bipush 12, 2) := by decide +kernel
theorem dX12_statue_51 : decode cX12_statue 51 = .ok (.if_icmp .ge 26, 3) := by decide +kernel
theorem dX12_statue_54 : decode cX12_statue 54 = .ok (.aload_n 0, 1) := by decide +kernel
theorem dX12_statue_55 : decode cX12_statue 55 = .ok (.iload_n 1, 1) := by decide +kernel
theorem dX12_statue_56 : decode cX12_statue 56 = .ok (.iload_n 2, 1) := by decide +kernel
theorem dX12_statue_57 : decode cX12_statue 57 = .ok (.iload 4, 2) := by decide +kernel
theorem dX12_statue_59 : decode cX12_statue 59 = .ok (.iload 4, 2) := by decide +kernel
theorem dX12_statue_61 : decode cX12_statue 61 = .ok (.iload_n 3, 1) := by decide +kernel
theorem dX12_statue_62 : decode cX12_statue 62 = .ok (.invokevirtual 140, 3) := by decide +kernel
theorem dX12_statue_65 : decode cX12_statue 65 = .ok (.ifCond .ne 6, 3) := by decide +kernel
theorem dX12_statue_68 : decode cX12_statue 68 = .ok (.iload 4, 2) := by decide +kernel
theorem dX12_statue_70 : decode cX12_statue 70 = .ok (.ireturn, 1) := by decide +kernel
theorem dX12_statue_71 : decode cX12_statue 71 = .ok (.iinc 4 1, 3) := by decide +kernel
theorem dX12_statue_74 : decode cX12_statue 74 = .ok (.goto (-27), 3) := by decide +kernel
theorem dX12_statue_77 : decode cX12_statue 77 = .ok (.bipush (-9), 2) := by decide +kernel
theorem dX12_statue_79 : decode cX12_statue 79 = .ok (.ireturn, 1) := by decide +kernel
theorem dX12_apartNow_0 : decode cX12_apartNow 0 = .ok (.aload_n 0, 1) := by decide +kernel
theorem dX12_apartNow_1 : decode cX12_apartNow 1 = .ok (.getfield 46, 3) := by decide +kernel
theorem dX12_apartNow_4 : decode cX12_apartNow 4 = .ok (.iconst 0, 1) := by decide +kernel
theorem dX12_apartNow_5 : decode cX12_apartNow 5 = .ok (.iaload, 1) := by decide +kernel
theorem dX12_apartNow_6 : decode cX12_apartNow 6 = .ok (.istore_n 1, 1) := by decide +kernel
theorem dX12_apartNow_7 : decode cX12_apartNow 7 = .ok (.aload_n 0, 1) := by decide +kernel
theorem dX12_apartNow_8 : decode cX12_apartNow 8 = .ok (.getfield 46, 3) := by decide +kernel
theorem dX12_apartNow_11 : decode cX12_apartNow 11 = .ok (.iconst 0, 1) := by decide +kernel
theorem dX12_apartNow_12 : decode cX12_apartNow 12 = .ok (.iaload, 1) := by decide +kernel
theorem dX12_apartNow_13 : decode cX12_apartNow 13 = .ok (.istore_n 2, 1) := by decide +kernel
theorem dX12_apartNow_14 : decode cX12_apartNow 14 = .ok (.iconst 1, 1) := by decide +kernel
theorem dX12_apartNow_15 : decode cX12_apartNow 15 = .ok (.istore_n 3, 1) := by decide +kernel
theorem dX12_apartNow_16 : decode cX12_apartNow 16 = .ok (.iload_n 3, 1) := by decide +kernel
theorem dX12_apartNow_17 : decode cX12_apartNow 17 = .ok (.aload_n 0, 1) := by decide +kernel
theorem dX12_apartNow_18 : decode cX12_apartNow 18 = .ok (.invokevirtual 78, 3) := by decide +kernel
theorem dX12_apartNow_21 : decode cX12_apartNow 21 = .ok (.if_icmp .ge 51, 3) := by decide +kernel
theorem dX12_apartNow_24 : decode cX12_apartNow 24 = .ok (.aload_n 0, 1) := by decide +kernel
theorem dX12_apartNow_25 : decode cX12_apartNow 25 = .ok (.getfield 46, 3) := by decide +kernel
theorem dX12_apartNow_28 : decode cX12_apartNow 28 = .ok (.iload_n 3, 1) := by decide +kernel
theorem dX12_apartNow_29 : decode cX12_apartNow 29 = .ok (.iaload, 1) := by decide +kernel
theorem dX12_apartNow_30 : decode cX12_apartNow 30 = .ok (.iload_n 1, 1) := by decide +kernel
theorem dX12_apartNow_31 : decode cX12_apartNow 31 = .ok (.if_icmp .ge 12, 3) := by decide +kernel
theorem dX12_apartNow_34 : decode cX12_apartNow 34 = .ok (.aload_n 0, 1) := by decide +kernel
theorem dX12_apartNow_35 : decode cX12_apartNow 35 = .ok (.getfield 46, 3) := by decide +kernel
theorem dX12_apartNow_38 : decode cX12_apartNow 38 = .ok (.iload_n 3, 1) := by decide +kernel
theorem dX12_apartNow_39 : decode cX12_apartNow 39 = .ok (.iaload, 1) := by decide +kernel
theorem dX12_apartNow_40 : decode cX12_apartNow 40 = .ok (.goto 4, 3) := by decide +kernel
theorem dX12_apartNow_43 : decode cX12_apartNow 43 = .ok (.iload_n 1, 1) := by decide +kernel
theorem dX12_apartNow_44 : decode cX12_apartNow 44 = .ok (.istore_n 1, 1) := by decide +kernel
theorem dX12_apartNow_45 : decode cX12_apartNow 45 = .ok (.aload_n 0, 1) := by decide +kernel
theorem dX12_apartNow_46 : decode cX12_apartNow 46 = .ok (.getfield 46, 3) := by decide +kernel
theorem dX12_apartNow_49 : decode cX12_apartNow 49 = .ok (.iload_n 3, 1) := by decide +kernel
theorem dX12_apartNow_50 : decode cX12_apartNow 50 = .ok (.iaload, 1) := by decide +kernel
theorem dX12_apartNow_51 : decode cX12_apartNow 51 = .ok (.iload_n 2, 1) := by decide +kernel
theorem dX12_apartNow_52 : decode cX12_apartNow 52 = .ok (.if_icmp .le 12, 3) := by decide +kernel
theorem dX12_apartNow_55 : decode cX12_apartNow 55 = .ok (.aload_n 0, 1) := by decide +kernel
theorem dX12_apartNow_56 : decode cX12_apartNow 56 = .ok (.getfield 46, 3) := by decide +kernel
theorem dX12_apartNow_59 : decode cX12_apartNow 59 = .ok (.iload_n 3, 1) := by decide +kernel
theorem dX12_apartNow_60 : decode cX12_apartNow 60 = .ok (.iaload, 1) := by decide +kernel
theorem dX12_apartNow_61 : decode cX12_apartNow 61 = .ok (.goto 4, 3) := by decide +kernel
theorem dX12_apartNow_64 : decode cX12_apartNow 64 = .ok (.iload_n 2, 1) := by decide +kernel
theorem dX12_apartNow_65 : decode cX12_apartNow 65 = .ok (.istore_n 2, 1) := by decide +kernel
theorem dX12_apartNow_66 : decode cX12_apartNow 66 = .ok (.iinc 3 1, 3) := by decide +kernel
theorem dX12_apartNow_69 : decode cX12_apartNow 69 = .ok (.goto (-53), 3) := by decide +kernel
theorem dX12_apartNow_72 : decode cX12_apartNow 72 = .ok (.iload_n 2, 1) := by decide +kernel
theorem dX12_apartNow_73 : decode cX12_apartNow 73 = .ok (.iload_n 1, 1) := by decide +kernel
theorem dX12_apartNow_74 : decode cX12_apartNow 74 = .ok (.isub, 1) := by decide +kernel
theorem dX12_apartNow_75 : decode cX12_apartNow 75 = .ok (.ireturn, 1) := by decide +kernel
theorem dX12_goNight_0 : decode cX12_goNight 0 = .ok (.iconst 0, 1) := by decide +kernel
theorem dX12_goNight_1 : decode cX12_goNight 1 = .ok (.istore_n 2, 1) := by decide +kernel
theorem dX12_goNight_2 : decode cX12_goNight 2 = .ok (.iload_n 2, 1) := by decide +kernel
theorem dX12_goNight_3 : decode cX12_goNight 3 = .ok (.aload_n 0, 1) := by decide +kernel
theorem dX12_goNight_4 : decode cX12_goNight 4 = .ok (.invokevirtual 78, 3) := by decide +kernel
theorem dX12_goNight_7 : decode cX12_goNight 7 = .ok (.if_icmp .ge 16, 3) := by decide +kernel
theorem dX12_goNight_10 : decode cX12_goNight 10 = .ok (.aload_n 0, 1) := by decide +kernel
theorem dX12_goNight_11 : decode cX12_goNight 11 = .ok (.getfield 49, 3) := by decide +kernel
theorem dX12_goNight_14 : decode cX12_goNight 14 = .ok (.iload_n 2, 1) := by decide +kernel
theorem dX12_goNight_15 : decode cX12_goNight 15 = .ok (.iconst 0, 1) := by decide +kernel
theorem dX12_goNight_16 : decode cX12_goNight 16 = .ok (.bastore, 1) := by decide +kernel
theorem dX12_goNight_17 : decode cX12_goNight 17 = .ok (.iinc 2 1, 3) := by decide +kernel
theorem dX12_goNight_20 : decode cX12_goNight 20 = .ok (.goto (-18), 3) := by decide +kernel
theorem dX12_goNight_23 : decode cX12_goNight 23 = .ok (.iconst 0, 1) := by decide +kernel
theorem dX12_goNight_24 : decode cX12_goNight 24 = .ok (.istore_n 2, 1) := by decide +kernel
theorem dX12_goNight_25 : decode cX12_goNight 25 = .ok (.iload_n 2, 1) := by decide +kernel
theorem dX12_goNight_26 : decode cX12_goNight 26 = .ok (.iload_n 1, 1) := by decide +kernel
theorem dX12_goNight_27 : decode cX12_goNight 27 = .ok (.if_icmp .ge 96, 3) := by decide +kernel
theorem dX12_goNight_30 : decode cX12_goNight 30 = .ok (.iload_n 2, 1) := by decide +kernel
theorem dX12_goNight_31 : decode cX12_goNight 31 = .ok (.aload_n 0, 1) := by decide +kernel
theorem dX12_goNight_32 : decode cX12_goNight 32 = .ok (.invokevirtual 78, 3) := by decide +kernel
theorem dX12_goNight_35 : decode cX12_goNight 35 = .ok (.if_icmp .ge 88, 3) := by decide +kernel
theorem dX12_goNight_38 : decode cX12_goNight 38 = .ok (.bipush (-9), 2) := by decide +kernel
theorem dX12_goNight_40 : decode cX12_goNight 40 = .ok (.istore_n 3, 1) := by decide +kernel
theorem dX12_goNight_41 : decode cX12_goNight 41 = .ok (.iconst 0, 1) := by decide +kernel
theorem dX12_goNight_42 : decode cX12_goNight 42 = .ok (.istore 4, 2) := by decide +kernel
theorem dX12_goNight_44 : decode cX12_goNight 44 = .ok (.iload 4, 2) := by decide +kernel
theorem dX12_goNight_46 : decode cX12_goNight 46 = .ok (.aload_n 0, 1) := by decide +kernel
theorem dX12_goNight_47 : decode cX12_goNight 47 = .ok (.invokevirtual 78, 3) := by decide +kernel
theorem dX12_goNight_50 : decode cX12_goNight 50 = .ok (.if_icmp .ge 60, 3) := by decide +kernel
theorem dX12_goNight_53 : decode cX12_goNight 53 = .ok (.aload_n 0, 1) := by decide +kernel
theorem dX12_goNight_54 : decode cX12_goNight 54 = .ok (.getfield 49, 3) := by decide +kernel
theorem dX12_goNight_57 : decode cX12_goNight 57 = .ok (.iload 4, 2) := by decide +kernel
theorem dX12_goNight_59 : decode cX12_goNight 59 = .ok (.baload, 1) := by decide +kernel
theorem dX12_goNight_60 : decode cX12_goNight 60 = .ok (.ifCond .ne 29, 3) := by decide +kernel
theorem dX12_goNight_63 : decode cX12_goNight 63 = .ok (.iload_n 3, 1) := by decide +kernel
theorem dX12_goNight_64 : decode cX12_goNight 64 = .ok (.bipush (-9), 2) := by decide +kernel
theorem dX12_goNight_66 : decode cX12_goNight 66 = .ok (.if_icmp .eq 19, 3) := by decide +kernel
theorem dX12_goNight_69 : decode cX12_goNight 69 = .ok (.aload_n 0, 1) := by decide +kernel
theorem dX12_goNight_70 : decode cX12_goNight 70 = .ok (.getfield 46, 3) := by decide +kernel
theorem dX12_goNight_73 : decode cX12_goNight 73 = .ok (.iload 4, 2) := by decide +kernel
theorem dX12_goNight_75 : decode cX12_goNight 75 = .ok (.iaload, 1) := by decide +kernel
theorem dX12_goNight_76 : decode cX12_goNight 76 = .ok (.aload_n 0, 1) := by decide +kernel
theorem dX12_goNight_77 : decode cX12_goNight 77 = .ok (.getfield 46, 3) := by decide +kernel
theorem dX12_goNight_80 : decode cX12_goNight 80 = .ok (.iload_n 3, 1) := by decide +kernel
theorem dX12_goNight_81 : decode cX12_goNight 81 = .ok (.iaload, 1) := by decide +kernel
theorem dX12_goNight_82 : decode cX12_goNight 82 = .ok (.if_icmp .ge 7, 3) := by decide +kernel
theorem dX12_goNight_85 : decode cX12_goNight 85 = .ok (.iconst 1, 1) := by decide +kernel
theorem dX12_goNight_86 : decode cX12_goNight 86 = .ok (.goto 4, 3) := by decide +kernel
theorem dX12_goNight_89 : decode cX12_goNight 89 = .ok (.iconst 0, 1) := by decide +kernel
theorem dX12_goNight_90 : decode cX12_goNight 90 = .ok (.istore 5, 2) := by decide +kernel
theorem dX12_goNight_92 : decode cX12_goNight 92 = .ok (.iload 5, 2) := by decide +kernel
theorem dX12_goNight_94 : decode cX12_goNight 94 = .ok (.ifCond .eq 8, 3) := by decide +kernel
theorem dX12_goNight_97 : decode cX12_goNight 97 = .ok (.iload 4, 2) := by decide +kernel
theorem dX12_goNight_99 : decode cX12_goNight 99 = .ok (.goto 4, 3) := by decide +kernel
theorem dX12_goNight_102 : decode cX12_goNight 102 = .ok (.iload_n 3, 1) := by decide +kernel
theorem dX12_goNight_103 : decode cX12_goNight 103 = .ok (.istore_n 3, 1) := by decide +kernel
theorem dX12_goNight_104 : decode cX12_goNight 104 = .ok (.iinc 4 1, 3) := by decide +kernel
theorem dX12_goNight_107 : decode cX12_goNight 107 = .ok (.goto (-63), 3) := by decide +kernel
theorem dX12_goNight_110 : decode cX12_goNight 110 = .ok (.aload_n 0, 1) := by decide +kernel
theorem dX12_goNight_111 : decode cX12_goNight 111 = .ok (.getfield 49, 3) := by decide +kernel
theorem dX12_goNight_114 : decode cX12_goNight 114 = .ok (.iload_n 3, 1) := by decide +kernel
theorem dX12_goNight_115 : decode cX12_goNight 115 = .ok (.iconst 1, 1) := by decide +kernel
theorem dX12_goNight_116 : decode cX12_goNight 116 = .ok (.bastore, 1) := by decide +kernel
theorem dX12_goNight_117 : decode cX12_goNight 117 = .ok (.iinc 2 1, 3) := by decide +kernel
theorem dX12_goNight_120 : decode cX12_goNight 120 = .ok (.goto (-95), 3) := by decide +kernel
theorem dX12_goNight_123 : decode cX12_goNight 123 = .ok (.iconst 0, 1) := by decide +kernel
theorem dX12_goNight_124 : decode cX12_goNight 124 = .ok (.istore_n 2, 1) := by decide +kernel
theorem dX12_goNight_125 : decode cX12_goNight 125 = .ok (.iload_n 2, 1) := by decide +kernel
theorem dX12_goNight_126 : decode cX12_goNight 126 = .ok (.aload_n 0, 1) := by decide +kernel
theorem dX12_goNight_127 : decode cX12_goNight 127 = .ok (.invokevirtual 78, 3) := by decide +kernel
theorem dX12_goNight_130 : decode cX12_goNight 130 = .ok (.if_icmp .ge 32, 3) := by decide +kernel
theorem dX12_goNight_133 : decode cX12_goNight 133 = .ok (.aload_n 0, 1) := by decide +kernel
theorem dX12_goNight_134 : decode cX12_goNight 134 = .ok (.getfield 46, 3) := by decide +kernel
theorem dX12_goNight_137 : decode cX12_goNight 137 = .ok (.iload_n 2, 1) := by decide +kernel
theorem dX12_goNight_138 : decode cX12_goNight 138 = .ok (.dup2, 1) := by decide +kernel
theorem dX12_goNight_139 : decode cX12_goNight 139 = .ok (.iaload, 1) := by decide +kernel
theorem dX12_goNight_140 : decode cX12_goNight 140 = .ok (.aload_n 0, 1) := by decide +kernel
theorem dX12_goNight_141 : decode cX12_goNight 141 = .ok (.getfield 49, 3) := by decide +kernel
theorem dX12_goNight_144 : decode cX12_goNight 144 = .ok (.iload_n 2, 1) := by decide +kernel
theorem dX12_goNight_145 : decode cX12_goNight 145 = .ok (.baload, 1) := by decide +kernel
theorem dX12_goNight_146 : decode cX12_goNight 146 = .ok (.ifCond .eq 7, 3) := by decide +kernel
theorem dX12_goNight_149 : decode cX12_goNight 149 = .ok (.iconst 1, 1) := by decide +kernel
theorem dX12_goNight_150 : decode cX12_goNight 150 = .ok (.goto 4, 3) := by decide +kernel
theorem dX12_goNight_153 : decode cX12_goNight 153 = .ok (.iconst 0, 1) := by decide +kernel
theorem dX12_goNight_154 : decode cX12_goNight 154 = .ok (.iadd, 1) := by decide +kernel
theorem dX12_goNight_155 : decode cX12_goNight 155 = .ok (.iastore, 1) := by decide +kernel
theorem dX12_goNight_156 : decode cX12_goNight 156 = .ok (.iinc 2 1, 3) := by decide +kernel
theorem dX12_goNight_159 : decode cX12_goNight 159 = .ok (.goto (-34), 3) := by decide +kernel
theorem dX12_goNight_162 : decode cX12_goNight 162 = .ok (.return_, 1) := by decide +kernel
theorem dX12_nights_0 : decode cX12_nights 0 = .ok (.iload_n 1, 1) := by decide +kernel
theorem dX12_nights_1 : decode cX12_nights 1 = .ok (.invokestatic 123, 3) := by decide +kernel
theorem dX12_nights_4 : decode cX12_nights 4 = .ok (.ifCond .ne 5, 3) := by decide +kernel
theorem dX12_nights_7 : decode cX12_nights 7 = .ok (.iconst (-1), 1) := by decide +kernel
theorem dX12_nights_8 : decode cX12_nights 8 = .ok (.ireturn, 1) := by decide +kernel
theorem dX12_nights_9 : decode cX12_nights 9 = .ok (.iload_n 2, 1) := by decide +kernel
theorem dX12_nights_10 : decode cX12_nights 10 = .ok (.iconst 1, 1) := by decide +kernel
theorem dX12_nights_11 : decode cX12_nights 11 = .ok (.bipush 9, 2) := by decide +kernel
theorem dX12_nights_13 : decode cX12_nights 13 = .ok (.invokestatic 68, 3) := by decide +kernel
theorem dX12_nights_16 : decode cX12_nights 16 = .ok (.ifCond .eq 14, 3) := by decide +kernel
theorem dX12_nights_19 : decode cX12_nights 19 = .ok (.iload_n 3, 1) := by decide +kernel
theorem dX12_nights_20 : decode cX12_nights 20 = .ok (.iconst 0, 1) := by decide +kernel
theorem dX12_nights_21 : decode cX12_nights 21 = .ok (.sipush 999, 3) := by decide +kernel
theorem dX12_nights_24 : decode cX12_nights 24 = .ok (.invokestatic 68, 3) := by decide +kernel
theorem dX12_nights_27 : decode cX12_nights 27 = .ok (.ifCond .ne 6, 3) := by decide +kernel
theorem dX12_nights_30 : decode cX12_nights 30 = .ok (.bipush (-2), 2) := by decide +kernel
theorem dX12_nights_32 : decode cX12_nights 32 = .ok (.ireturn, 1) := by decide +kernel
theorem dX12_nights_33 : decode cX12_nights 33 = .ok (.aload_n 0, 1) := by decide +kernel
theorem dX12_nights_34 : decode cX12_nights 34 = .ok (.invokevirtual 78, 3) := by decide +kernel
theorem dX12_nights_37 : decode cX12_nights 37 = .ok (.ifCond .ne 6, 3) := by decide +kernel
theorem dX12_nights_40 : decode cX12_nights 40 = .ok (.bipush (-3), 2) := by decide +kernel
theorem dX12_nights_42 : decode cX12_nights 42 = .ok (.ireturn, 1) := by decide +kernel
theorem dX12_nights_43 : decode cX12_nights 43 = .ok (.iconst 0, 1) := by decide +kernel
theorem dX12_nights_44 : decode cX12_nights 44 = .ok (.istore 4, 2) := by decide +kernel
theorem dX12_nights_46 : decode cX12_nights 46 = .ok (.iload 4, 2) := by decide +kernel
theorem dX12_nights_48 : decode cX12_nights 48 = .ok (.aload_n 0, 1) := by decide +kernel
theorem dX12_nights_49 : decode cX12_nights 49 = .ok (.invokevirtual 78, 3) := by decide +kernel
theorem dX12_nights_52 : decode cX12_nights 52 = .ok (.if_icmp .ge 23, 3) := by decide +kernel
theorem dX12_nights_55 : decode cX12_nights 55 = .ok (.aload_n 0, 1) := by decide +kernel
theorem dX12_nights_56 : decode cX12_nights 56 = .ok (.getfield 46, 3) := by decide +kernel
theorem dX12_nights_59 : decode cX12_nights 59 = .ok (.iload 4, 2) := by decide +kernel
theorem dX12_nights_61 : decode cX12_nights 61 = .ok (.aload_n 0, 1) := by decide +kernel
theorem dX12_nights_62 : decode cX12_nights 62 = .ok (.iload 4, 2) := by decide +kernel
theorem dX12_nights_64 : decode cX12_nights 64 = .ok (.iload_n 1, 1) := by decide +kernel
theorem dX12_nights_65 : decode cX12_nights 65 = .ok (.invokevirtual 129, 3) := by decide +kernel
theorem dX12_nights_68 : decode cX12_nights 68 = .ok (.iastore, 1) := by decide +kernel
theorem dX12_nights_69 : decode cX12_nights 69 = .ok (.iinc 4 1, 3) := by decide +kernel
theorem dX12_nights_72 : decode cX12_nights 72 = .ok (.goto (-26), 3) := by decide +kernel
theorem dX12_nights_75 : decode cX12_nights 75 = .ok (.iconst 0, 1) := by decide +kernel
theorem dX12_nights_76 : decode cX12_nights 76 = .ok (.istore 4, 2) := by decide +kernel
theorem dX12_nights_78 : decode cX12_nights 78 = .ok (.iload 4, 2) := by decide +kernel
theorem dX12_nights_80 : decode cX12_nights 80 = .ok (.sipush 500, 3) := by decide +kernel
theorem dX12_nights_83 : decode cX12_nights 83 = .ok (.if_icmp .gt 25, 3) := by decide +kernel
theorem dX12_nights_86 : decode cX12_nights 86 = .ok (.aload_n 0, 1) := by decide +kernel
theorem dX12_nights_87 : decode cX12_nights 87 = .ok (.invokevirtual 173, 3) := by decide +kernel
theorem dX12_nights_90 : decode cX12_nights 90 = .ok (.iload_n 3, 1) := by decide +kernel
theorem dX12_nights_91 : decode cX12_nights 91 = .ok (.if_icmp .gt 6, 3) := by decide +kernel
theorem dX12_nights_94 : decode cX12_nights 94 = .ok (.iload 4, 2) := by decide +kernel
theorem dX12_nights_96 : decode cX12_nights 96 = .ok (.ireturn, 1) := by decide +kernel
theorem dX12_nights_97 : decode cX12_nights 97 = .ok (.aload_n 0, 1) := by decide +kernel
theorem dX12_nights_98 : decode cX12_nights 98 = .ok (.iload_n 2, 1) := by decide +kernel
theorem dX12_nights_99 : decode cX12_nights 99 = .ok (.invokevirtual 176, 3) := by decide +kernel
theorem dX12_nights_102 : decode cX12_nights 102 = .ok (.iinc 4 1, 3) := by decide +kernel
theorem dX12_nights_105 : decode cX12_nights 105 = .ok (.goto (-27), 3) := by decide +kernel
theorem dX12_nights_108 : decode cX12_nights 108 = .ok (.bipush (-9), 2) := by decide +kernel
theorem dX12_nights_110 : decode cX12_nights 110 = .ok (.ireturn, 1) := by decide +kernel
theorem dX12_reading_0 : decode cX12_reading 0 = .ok (.aload_n 0, 1) := by decide +kernel
theorem dX12_reading_1 : decode cX12_reading 1 = .ok (.iload_n 1, 1) := by decide +kernel
theorem dX12_reading_2 : decode cX12_reading 2 = .ok (.invokevirtual 120, 3) := by decide +kernel
theorem dX12_reading_5 : decode cX12_reading 5 = .ok (.ifCond .eq 10, 3) := by decide +kernel
theorem dX12_reading_8 : decode cX12_reading 8 = .ok (.iload_n 2, 1) := by decide +kernel
theorem dX12_reading_9 : decode cX12_reading 9 = .ok (.invokestatic 123, 3) := by decide +kernel
theorem dX12_reading_12 : decode cX12_reading 12 = .ok (.ifCond .ne 5, 3) := by decide +kernel
theorem dX12_reading_15 : decode cX12_reading 15 = .ok (.iconst (-1), 1) := by decide +kernel
theorem dX12_reading_16 : decode cX12_reading 16 = .ok (.ireturn, 1) := by decide +kernel
theorem dX12_reading_17 : decode cX12_reading 17 = .ok (.iload_n 3, 1) := by decide +kernel
theorem dX12_reading_18 : decode cX12_reading 18 = .ok (.iconst 0, 1) := by decide +kernel
theorem dX12_reading_19 : decode cX12_reading 19 = .ok (.sipush 999, 3) := by decide +kernel
theorem dX12_reading_22 : decode cX12_reading 22 = .ok (.invokestatic 68, 3) := by decide +kernel
theorem dX12_reading_25 : decode cX12_reading 25 = .ok (.ifCond .ne 6, 3) := by decide +kernel
theorem dX12_reading_28 : decode cX12_reading 28 = .ok (.bipush (-2), 2) := by decide +kernel
theorem dX12_reading_30 : decode cX12_reading 30 = .ok (.ireturn, 1) := by decide +kernel
theorem dX12_reading_31 : decode cX12_reading 31 = .ok (.aload_n 0, 1) := by decide +kernel
theorem dX12_reading_32 : decode cX12_reading 32 = .ok (.getfield 109, 3) := by decide +kernel
theorem dX12_reading_35 : decode cX12_reading 35 = .ok (.bipush 10, 2) := by decide +kernel
theorem dX12_reading_37 : decode cX12_reading 37 = .ok (.if_icmp .ne 6, 3) := by decide +kernel
theorem dX12_reading_40 : decode cX12_reading 40 = .ok (.bipush (-4), 2) := by decide +kernel
theorem dX12_reading_42 : decode cX12_reading 42 = .ok (.ireturn, 1) := by decide +kernel
theorem dX12_reading_43 : decode cX12_reading 43 = .ok (.aload_n 0, 1) := by decide +kernel
theorem dX12_reading_44 : decode cX12_reading 44 = .ok (.getfield 53, 3) := by decide +kernel
theorem dX12_reading_47 : decode cX12_reading 47 = .ok (.aload_n 0, 1) := by decide +kernel
theorem dX12_reading_48 : decode cX12_reading 48 = .ok (.getfield 109, 3) := by decide +kernel
theorem dX12_reading_51 : decode cX12_reading 51 = .ok (.iload_n 1, 1) := by decide +kernel
theorem dX12_reading_52 : decode cX12_reading 52 = .ok (.iastore, 1) := by decide +kernel
theorem dX12_reading_53 : decode cX12_reading 53 = .ok (.aload_n 0, 1) := by decide +kernel
theorem dX12_reading_54 : decode cX12_reading 54 = .ok (.getfield 56, 3) := by decide +kernel
theorem dX12_reading_57 : decode cX12_reading 57 = .ok (.aload_n 0, 1) := by decide +kernel
theorem dX12_reading_58 : decode cX12_reading 58 = .ok (.getfield 109, 3) := by decide +kernel
theorem dX12_reading_61 : decode cX12_reading 61 = .ok (.iload_n 2, 1) := by decide +kernel
theorem dX12_reading_62 : decode cX12_reading 62 = .ok (.iastore, 1) := by decide +kernel
theorem dX12_reading_63 : decode cX12_reading 63 = .ok (.aload_n 0, 1) := by decide +kernel
theorem dX12_reading_64 : decode cX12_reading 64 = .ok (.getfield 59, 3) := by decide +kernel
theorem dX12_reading_67 : decode cX12_reading 67 = .ok (.aload_n 0, 1) := by decide +kernel
theorem dX12_reading_68 : decode cX12_reading 68 = .ok (.getfield 109, 3) := by decide +kernel
theorem dX12_reading_71 : decode cX12_reading 71 = .ok (.iload_n 3, 1) := by decide +kernel
theorem dX12_reading_72 : decode cX12_reading 72 = .ok (.iastore, 1) := by decide +kernel
theorem dX12_reading_73 : decode cX12_reading 73 = .ok (.aload_n 0, 1) := by decide +kernel
theorem dX12_reading_74 : decode cX12_reading 74 = .ok (.dup, 1) := by decide +kernel
theorem dX12_reading_75 : decode cX12_reading 75 = .ok (.getfield 109, 3) := by decide +kernel
theorem dX12_reading_78 : decode cX12_reading 78 = .ok (.iconst 1, 1) := by decide +kernel
theorem dX12_reading_79 : decode cX12_reading 79 = .ok (.iadd, 1) := by decide +kernel
theorem dX12_reading_80 : decode cX12_reading 80 = .ok (.putfield 109, 3) := by decide +kernel
theorem dX12_reading_83 : decode cX12_reading 83 = .ok (.aload_n 0, 1) := by decide +kernel
theorem dX12_reading_84 : decode cX12_reading 84 = .ok (.getfield 109, 3) := by decide +kernel
theorem dX12_reading_87 : decode cX12_reading 87 = .ok (.iconst 1, 1) := by decide +kernel
theorem dX12_reading_88 : decode cX12_reading 88 = .ok (.isub, 1) := by decide +kernel
theorem dX12_reading_89 : decode cX12_reading 89 = .ok (.ireturn, 1) := by decide +kernel
theorem dX12_back_0 : decode cX12_back 0 = .ok (.iload_n 1, 1) := by decide +kernel
theorem dX12_back_1 : decode cX12_back 1 = .ok (.iconst 0, 1) := by decide +kernel
theorem dX12_back_2 : decode cX12_back 2 = .ok (.aload_n 0, 1) := by decide +kernel
theorem dX12_back_3 : decode cX12_back 3 = .ok (.getfield 109, 3) := by decide +kernel
theorem dX12_back_6 : decode cX12_back 6 = .ok (.invokestatic 68, 3) := by decide +kernel
theorem dX12_back_9 : decode cX12_back 9 = .ok (.ifCond .ne 6, 3) := by decide +kernel
theorem dX12_back_12 : decode cX12_back 12 = .ok (.bipush (-2), 2) := by decide +kernel
theorem dX12_back_14 : decode cX12_back 14 = .ok (.ireturn, 1) := by decide +kernel
theorem dX12_back_15 : decode cX12_back 15 = .ok (.aload_n 0, 1) := by decide +kernel
theorem dX12_back_16 : decode cX12_back 16 = .ok (.dup, 1) := by decide +kernel
theorem dX12_back_17 : decode cX12_back 17 = .ok (.getfield 109, 3) := by decide +kernel
theorem dX12_back_20 : decode cX12_back 20 = .ok (.iload_n 1, 1) := by decide +kernel
theorem dX12_back_21 : decode cX12_back 21 = .ok (.isub, 1) := by decide +kernel
theorem dX12_back_22 : decode cX12_back 22 = .ok (.putfield 109, 3) := by decide +kernel
theorem dX12_back_25 : decode cX12_back 25 = .ok (.aload_n 0, 1) := by decide +kernel
theorem dX12_back_26 : decode cX12_back 26 = .ok (.getfield 109, 3) := by decide +kernel
theorem dX12_back_29 : decode cX12_back 29 = .ok (.ireturn, 1) := by decide +kernel
theorem dX12_isKind_0 : decode cX12_isKind 0 = .ok (.iconst 0, 1) := by decide +kernel
theorem dX12_isKind_1 : decode cX12_isKind 1 = .ok (.istore_n 3, 1) := by decide +kernel
theorem dX12_isKind_2 : decode cX12_isKind 2 = .ok (.iload_n 3, 1) := by decide +kernel
theorem dX12_isKind_3 : decode cX12_isKind 3 = .ok (.aload_n 0, 1) := by decide +kernel
theorem dX12_isKind_4 : decode cX12_isKind 4 = .ok (.getfield 109, 3) := by decide +kernel
theorem dX12_isKind_7 : decode cX12_isKind 7 = .ok (.if_icmp .ge 42, 3) := by decide +kernel
theorem dX12_isKind_10 : decode cX12_isKind 10 = .ok (.aload_n 0, 1) := by decide +kernel
theorem dX12_isKind_11 : decode cX12_isKind 11 = .ok (.getfield 53, 3) := by decide +kernel
theorem dX12_isKind_14 : decode cX12_isKind 14 = .ok (.iload_n 3, 1) := by decide +kernel
theorem dX12_isKind_15 : decode cX12_isKind 15 = .ok (.iaload, 1) := by decide +kernel
theorem dX12_isKind_16 : decode cX12_isKind 16 = .ok (.iload_n 1, 1) := by decide +kernel
theorem dX12_isKind_17 : decode cX12_isKind 17 = .ok (.if_icmp .ne 26, 3) := by decide +kernel
theorem dX12_isKind_20 : decode cX12_isKind 20 = .ok (.aload_n 0, 1) := by decide +kernel
theorem dX12_isKind_21 : decode cX12_isKind 21 = .ok (.iload_n 1, 1) := by decide +kernel
theorem dX12_isKind_22 : decode cX12_isKind 22 = .ok (.iload_n 2, 1) := by decide +kernel
theorem dX12_isKind_23 : decode cX12_isKind 23 = .ok (.aload_n 0, 1) := by decide +kernel
theorem dX12_isKind_24 : decode cX12_isKind 24 = .ok (.getfield 56, 3) := by decide +kernel
theorem dX12_isKind_27 : decode cX12_isKind 27 = .ok (.iload_n 3, 1) := by decide +kernel
theorem dX12_isKind_28 : decode cX12_isKind 28 = .ok (.iaload, 1) := by decide +kernel
theorem dX12_isKind_29 : decode cX12_isKind 29 = .ok (.invokevirtual 126, 3) := by decide +kernel
theorem dX12_isKind_32 : decode cX12_isKind 32 = .ok (.aload_n 0, 1) := by decide +kernel
theorem dX12_isKind_33 : decode cX12_isKind 33 = .ok (.getfield 59, 3) := by decide +kernel
theorem dX12_isKind_36 : decode cX12_isKind 36 = .ok (.iload_n 3, 1) := by decide +kernel
theorem dX12_isKind_37 : decode cX12_isKind 37 = .ok (.iaload, 1) := by decide +kernel
theorem dX12_isKind_38 : decode cX12_isKind 38 = .ok (.if_icmp .eq 5, 3) := by decide +kernel
theorem dX12_isKind_41 : decode cX12_isKind 41 = .ok (.iconst 0, 1) := by decide +kernel
theorem dX12_isKind_42 : decode cX12_isKind 42 = .ok (.ireturn, 1) := by decide +kernel
theorem dX12_isKind_43 : decode cX12_isKind 43 = .ok (.iinc 3 1, 3) := by decide +kernel
theorem dX12_isKind_46 : decode cX12_isKind 46 = .ok (.goto (-44), 3) := by decide +kernel
theorem dX12_isKind_49 : decode cX12_isKind 49 = .ok (.iconst 1, 1) := by decide +kernel
theorem dX12_isKind_50 : decode cX12_isKind 50 = .ok (.ireturn, 1) := by decide +kernel
theorem dX12_kinds_0 : decode cX12_kinds 0 = .ok (.aload_n 0, 1) := by decide +kernel
theorem dX12_kinds_1 : decode cX12_kinds 1 = .ok (.iload_n 1, 1) := by decide +kernel
theorem dX12_kinds_2 : decode cX12_kinds 2 = .ok (.invokevirtual 120, 3) := by decide +kernel
theorem dX12_kinds_5 : decode cX12_kinds 5 = .ok (.ifCond .ne 5, 3) := by decide +kernel
theorem dX12_kinds_8 : decode cX12_kinds 8 = .ok (.iconst (-1), 1) := by decide +kernel
theorem dX12_kinds_9 : decode cX12_kinds 9 = .ok (.ireturn, 1) := by decide +kernel
theorem dX12_kinds_10 : decode cX12_kinds 10 = .ok (.iconst 0, 1) := by decide +kernel
theorem dX12_kinds_11 : decode cX12_kinds 11 = .ok (.istore_n 2, 1) := by decide +kernel
theorem dX12_kinds_12 : decode cX12_kinds 12 = .ok (.iconst 0, 1) := by decide +kernel
theorem dX12_kinds_13 : decode cX12_kinds 13 = .ok (.istore_n 3, 1) := by decide +kernel
theorem dX12_kinds_14 : decode cX12_kinds 14 = .ok (.iload_n 3, 1) := by decide +kernel
theorem dX12_kinds_15 : decode cX12_kinds 15 = .ok (.iconst 3, 1) := by decide +kernel
theorem dX12_kinds_16 : decode cX12_kinds 16 = .ok (.if_icmp .ge 28, 3) := by decide +kernel
theorem dX12_kinds_19 : decode cX12_kinds 19 = .ok (.iload_n 2, 1) := by decide +kernel
theorem dX12_kinds_20 : decode cX12_kinds 20 = .ok (.aload_n 0, 1) := by decide +kernel
theorem dX12_kinds_21 : decode cX12_kinds 21 = .ok (.iload_n 1, 1) := by decide +kernel
theorem dX12_kinds_22 : decode cX12_kinds 22 = .ok (.iload_n 3, 1) := by decide +kernel
theorem dX12_kinds_23 : decode cX12_kinds 23 = .ok (.invokevirtual 179, 3) := by decide +kernel
theorem dX12_kinds_26 : decode cX12_kinds 26 = .ok (.ifCond .eq 9, 3) := by decide +kernel
theorem dX12_kinds_29 : decode cX12_kinds 29 = .ok (.iconst 1, 1) := by decide +kernel
theorem dX12_kinds_30 : decode cX12_kinds 30 = .ok (.iload_n 3, 1) := by decide +kernel
theorem dX12_kinds_31 : decode cX12_kinds 31 = .ok (.ishl, 1) := by decide +kernel
theorem dX12_kinds_32 : decode cX12_kinds 32 = .ok (.goto 4, 3) := by decide +kernel
theorem dX12_kinds_35 : decode cX12_kinds 35 = .ok (.iconst 0, 1) := by decide +kernel
theorem dX12_kinds_36 : decode cX12_kinds 36 = .ok (.ior, 1) := by decide +kernel
theorem dX12_kinds_37 : decode cX12_kinds 37 = .ok (.istore_n 2, 1) := by decide +kernel
theorem dX12_kinds_38 : decode cX12_kinds 38 = .ok (.iinc 3 1, 3) := by decide +kernel
theorem dX12_kinds_41 : decode cX12_kinds 41 = .ok (.goto (-27), 3) := by decide +kernel
theorem dX12_kinds_44 : decode cX12_kinds 44 = .ok (.iload_n 2, 1) := by decide +kernel
theorem dX12_kinds_45 : decode cX12_kinds 45 = .ok (.ireturn, 1) := by decide +kernel
theorem dX12_sheet_0 : decode cX12_sheet 0 = .ok (.aload_n 0, 1) := by decide +kernel
theorem dX12_sheet_1 : decode cX12_sheet 1 = .ok (.iconst 0, 1) := by decide +kernel
theorem dX12_sheet_2 : decode cX12_sheet 2 = .ok (.putfield 62, 3) := by decide +kernel
theorem dX12_sheet_5 : decode cX12_sheet 5 = .ok (.iload_n 1, 1) := by decide +kernel
theorem dX12_sheet_6 : decode cX12_sheet 6 = .ok (.invokestatic 85, 3) := by decide +kernel
theorem dX12_sheet_9 : decode cX12_sheet 9 = .ok (.ifCond .ne 5, 3) := by decide +kernel
theorem dX12_sheet_12 : decode cX12_sheet 12 = .ok (.iconst (-1), 1) := by decide +kernel
theorem dX12_sheet_13 : decode cX12_sheet 13 = .ok (.ireturn, 1) := by decide +kernel
theorem dX12_sheet_14 : decode cX12_sheet 14 = .ok (.iload_n 2, 1) := by decide +kernel
theorem dX12_sheet_15 : decode cX12_sheet 15 = .ok (.invokestatic 89, 3) := by decide +kernel
theorem dX12_sheet_18 : decode cX12_sheet 18 = .ok (.ifCond .eq 9, 3) := by decide +kernel
theorem dX12_sheet_21 : decode cX12_sheet 21 = .ok (.iload_n 3, 1) := by decide +kernel
theorem dX12_sheet_22 : decode cX12_sheet 22 = .ok (.bipush 80, 2) := by decide +kernel
theorem dX12_sheet_24 : decode cX12_sheet 24 = .ok (.if_icmp .le 6, 3) := by decide +kernel
theorem dX12_sheet_27 : decode cX12_sheet 27 = .ok (.bipush (-2), 2) := by decide +kernel
theorem dX12_sheet_29 : decode cX12_sheet 29 = .ok (.ireturn, 1) := by decide +kernel
theorem dX12_sheet_30 : decode cX12_sheet 30 = .ok (.iload_n 3, 1) := by decide +kernel
theorem dX12_sheet_31 : decode cX12_sheet 31 = .ok (.ifCond .ge 9, 3) := by decide +kernel
theorem dX12_sheet_34 : decode cX12_sheet 34 = .ok (.aload_n 0, 1) := by decide +kernel
theorem dX12_sheet_35 : decode cX12_sheet 35 = .ok (.iconst 4, 1) := by decide +kernel
theorem dX12_sheet_36 : decode cX12_sheet 36 = .ok (.invokevirtual 96, 3) := by decide +kernel
theorem dX12_sheet_39 : decode cX12_sheet 39 = .ok (.ireturn, 1) := by decide +kernel
theorem dX12_sheet_40 : decode cX12_sheet 40 = .ok (.aload_n 0, 1) := by decide +kernel
theorem dX12_sheet_41 : decode cX12_sheet 41 = .ok (.getfield 9, 3) := by decide +kernel
theorem dX12_sheet_44 : decode cX12_sheet 44 = .ok (.iload_n 1, 1) := by decide +kernel
theorem dX12_sheet_45 : decode cX12_sheet 45 = .ok (.iload_n 2, 1) := by decide +kernel
theorem dX12_sheet_46 : decode cX12_sheet 46 = .ok (.iastore, 1) := by decide +kernel
theorem dX12_sheet_47 : decode cX12_sheet 47 = .ok (.aload_n 0, 1) := by decide +kernel
theorem dX12_sheet_48 : decode cX12_sheet 48 = .ok (.getfield 13, 3) := by decide +kernel
theorem dX12_sheet_51 : decode cX12_sheet 51 = .ok (.iload_n 1, 1) := by decide +kernel
theorem dX12_sheet_52 : decode cX12_sheet 52 = .ok (.iload_n 3, 1) := by decide +kernel
theorem dX12_sheet_53 : decode cX12_sheet 53 = .ok (.iastore, 1) := by decide +kernel
theorem dX12_sheet_54 : decode cX12_sheet 54 = .ok (.iconst 0, 1) := by decide +kernel
theorem dX12_sheet_55 : decode cX12_sheet 55 = .ok (.istore 4, 2) := by decide +kernel
theorem dX12_sheet_57 : decode cX12_sheet 57 = .ok (.iload 4, 2) := by decide +kernel
theorem dX12_sheet_59 : decode cX12_sheet 59 = .ok (.bipush 80, 2) := by decide +kernel
theorem dX12_sheet_61 : decode cX12_sheet 61 = .ok (.if_icmp .ge 22, 3) := by decide +kernel
theorem dX12_sheet_64 : decode cX12_sheet 64 = .ok (.aload_n 0, 1) := by decide +kernel
theorem dX12_sheet_65 : decode cX12_sheet 65 = .ok (.getfield 16, 3) := by decide +kernel
theorem dX12_sheet_68 : decode cX12_sheet 68 = .ok (.bipush 80, 2) := by decide +kernel
theorem dX12_sheet_70 : decode cX12_sheet 70 = .ok (.iload_n 1, 1) := by decide +kernel
theorem dX12_sheet_71 : decode cX12_sheet 71 = .ok (.imul, 1) := by decide +kernel
theorem dX12_sheet_72 : decode cX12_sheet 72 = .ok (.iload 4, 2) := by decide +kernel
theorem dX12_sheet_74 : decode cX12_sheet 74 = .ok (.iadd, 1) := by decide +kernel
theorem dX12_sheet_75 : decode cX12_sheet 75 = .ok (.iconst 0, 1) := by decide +kernel
theorem dX12_sheet_76 : decode cX12_sheet 76 = .ok (.iastore, 1) := by decide +kernel
theorem dX12_sheet_77 : decode cX12_sheet 77 = .ok (.iinc 4 1, 3) := by decide +kernel
theorem dX12_sheet_80 : decode cX12_sheet 80 = .ok (.goto (-23), 3) := by decide +kernel
theorem dX12_sheet_83 : decode cX12_sheet 83 = .ok (.iconst 1, 1) := by decide +kernel
theorem dX12_sheet_84 : decode cX12_sheet 84 = .ok (.ireturn, 1) := by decide +kernel
theorem dX12_lose_0 : decode cX12_lose 0 = .ok (.iload_n 1, 1) := by decide +kernel
theorem dX12_lose_1 : decode cX12_lose 1 = .ok (.invokestatic 85, 3) := by decide +kernel
theorem dX12_lose_4 : decode cX12_lose 4 = .ok (.ifCond .ne 5, 3) := by decide +kernel
theorem dX12_lose_7 : decode cX12_lose 7 = .ok (.iconst (-1), 1) := by decide +kernel
theorem dX12_lose_8 : decode cX12_lose 8 = .ok (.ireturn, 1) := by decide +kernel
theorem dX12_lose_9 : decode cX12_lose 9 = .ok (.aload_n 0, 1) := by decide +kernel
theorem dX12_lose_10 : decode cX12_lose 10 = .ok (.getfield 9, 3) := by decide +kernel
theorem dX12_lose_13 : decode cX12_lose 13 = .ok (.iload_n 1, 1) := by decide +kernel
theorem dX12_lose_14 : decode cX12_lose 14 = .ok (.iaload, 1) := by decide +kernel
theorem dX12_lose_15 : decode cX12_lose 15 = .ok (.bipush (-9), 2) := by decide +kernel
theorem dX12_lose_17 : decode cX12_lose 17 = .ok (.if_icmp .ne 7, 3) := by decide +kernel
theorem dX12_lose_20 : decode cX12_lose 20 = .ok (.iconst 0, 1) := by decide +kernel
theorem dX12_lose_21 : decode cX12_lose 21 = .ok (.goto 4, 3) := by decide +kernel
theorem dX12_lose_24 : decode cX12_lose 24 = .ok (.iconst 1, 1) := by decide +kernel
theorem dX12_lose_25 : decode cX12_lose 25 = .ok (.istore_n 2, 1) := by decide +kernel
theorem dX12_lose_26 : decode cX12_lose 26 = .ok (.aload_n 0, 1) := by decide +kernel
theorem dX12_lose_27 : decode cX12_lose 27 = .ok (.getfield 9, 3) := by decide +kernel
theorem dX12_lose_30 : decode cX12_lose 30 = .ok (.iload_n 1, 1) := by decide +kernel
theorem dX12_lose_31 : decode cX12_lose 31 = .ok (.bipush (-9), 2) := by decide +kernel
theorem dX12_lose_33 : decode cX12_lose 33 = .ok (.iastore, 1) := by decide +kernel
theorem dX12_lose_34 : decode cX12_lose 34 = .ok (.iload_n 2, 1) := by decide +kernel
theorem dX12_lose_35 : decode cX12_lose 35 = .ok (.ireturn, 1) := by decide +kernel
theorem dX12_put_0 : decode cX12_put 0 = .ok (.aload_n 0, 1) := by decide +kernel
theorem dX12_put_1 : decode cX12_put 1 = .ok (.iconst 0, 1) := by decide +kernel
theorem dX12_put_2 : decode cX12_put 2 = .ok (.putfield 62, 3) := by decide +kernel
theorem dX12_put_5 : decode cX12_put 5 = .ok (.iload_n 1, 1) := by decide +kernel
theorem dX12_put_6 : decode cX12_put 6 = .ok (.invokestatic 85, 3) := by decide +kernel
theorem dX12_put_9 : decode cX12_put 9 = .ok (.ifCond .ne 5, 3) := by decide +kernel
theorem dX12_put_12 : decode cX12_put 12 = .ok (.iconst (-1), 1) := by decide +kernel
theorem dX12_put_13 : decode cX12_put 13 = .ok (.ireturn, 1) := by decide +kernel
theorem dX12_put_14 : decode cX12_put 14 = .ok (.aload_n 0, 1) := by decide +kernel
theorem dX12_put_15 : decode cX12_put 15 = .ok (.getfield 9, 3) := by decide +kernel
theorem dX12_put_18 : decode cX12_put 18 = .ok (.iload_n 1, 1) := by decide +kernel
theorem dX12_put_19 : decode cX12_put 19 = .ok (.iaload, 1) := by decide +kernel
theorem dX12_put_20 : decode cX12_put 20 = .ok (.bipush (-9), 2) := by decide +kernel
theorem dX12_put_22 : decode cX12_put 22 = .ok (.if_icmp .ne 9, 3) := by decide +kernel
theorem dX12_put_25 : decode cX12_put 25 = .ok (.aload_n 0, 1) := by decide +kernel
theorem dX12_put_26 : decode cX12_put 26 = .ok (.iconst 1, 1) := by decide +kernel
theorem dX12_put_27 : decode cX12_put 27 = .ok (.invokevirtual 96, 3) := by decide +kernel
theorem dX12_put_30 : decode cX12_put 30 = .ok (.ireturn, 1) := by decide +kernel
theorem dX12_put_31 : decode cX12_put 31 = .ok (.iload_n 2, 1) := by decide +kernel
theorem dX12_put_32 : decode cX12_put 32 = .ok (.iconst 0, 1) := by decide +kernel
theorem dX12_put_33 : decode cX12_put 33 = .ok (.aload_n 0, 1) := by decide +kernel
theorem dX12_put_34 : decode cX12_put 34 = .ok (.getfield 13, 3) := by decide +kernel
theorem dX12_put_37 : decode cX12_put 37 = .ok (.iload_n 1, 1) := by decide +kernel
theorem dX12_put_38 : decode cX12_put 38 = .ok (.iaload, 1) := by decide +kernel
theorem dX12_put_39 : decode cX12_put 39 = .ok (.iconst 1, 1) := by decide +kernel
theorem dX12_put_40 : decode cX12_put 40 = .ok (.isub, 1) := by decide +kernel
theorem dX12_put_41 : decode cX12_put 41 = .ok (.invokestatic 68, 3) := by decide +kernel
theorem dX12_put_44 : decode cX12_put 44 = .ok (.ifCond .ne 9, 3) := by decide +kernel
theorem dX12_put_47 : decode cX12_put 47 = .ok (.aload_n 0, 1) := by decide +kernel
theorem dX12_put_48 : decode cX12_put 48 = .ok (.iconst 3, 1) := by decide +kernel
theorem dX12_put_49 : decode cX12_put 49 = .ok (.invokevirtual 96, 3) := by decide +kernel
theorem dX12_put_52 : decode cX12_put 52 = .ok (.ireturn, 1) := by decide +kernel
theorem dX12_put_53 : decode cX12_put 53 = .ok (.aload_n 0, 1) := by decide +kernel
theorem dX12_put_54 : decode cX12_put 54 = .ok (.getfield 16, 3) := by decide +kernel
theorem dX12_put_57 : decode cX12_put 57 = .ok (.bipush 80, 2) := by decide +kernel
theorem dX12_put_59 : decode cX12_put 59 = .ok (.iload_n 1, 1) := by decide +kernel
theorem dX12_put_60 : decode cX12_put 60 = .ok (.imul, 1) := by decide +kernel
theorem dX12_put_61 : decode cX12_put 61 = .ok (.iload_n 2, 1) := by decide +kernel
theorem dX12_put_62 : decode cX12_put 62 = .ok (.iadd, 1) := by decide +kernel
theorem dX12_put_63 : decode cX12_put 63 = .ok (.aload_n 0, 1) := by decide +kernel
theorem dX12_put_64 : decode cX12_put 64 = .ok (.getfield 9, 3) := by decide +kernel
theorem dX12_put_67 : decode cX12_put 67 = .ok (.iload_n 1, 1) := by decide +kernel
theorem dX12_put_68 : decode cX12_put 68 = .ok (.iaload, 1) := by decide +kernel
theorem dX12_put_69 : decode cX12_put 69 = .ok (.ifCond .ne 8, 3) := by decide +kernel
theorem dX12_put_72 : decode cX12_put 72 = .ok (.iload_n 3, 1) := by decide +kernel
theorem dX12_put_73 : decode cX12_put 73 = .ok (.i2b, 1) := by decide +kernel
theorem dX12_put_74 : decode cX12_put 74 = .ok (.goto 19, 3) := by decide +kernel
theorem dX12_put_77 : decode cX12_put 77 = .ok (.aload_n 0, 1) := by decide +kernel
theorem dX12_put_78 : decode cX12_put 78 = .ok (.getfield 9, 3) := by decide +kernel
theorem dX12_put_81 : decode cX12_put 81 = .ok (.iload_n 1, 1) := by decide +kernel
theorem dX12_put_82 : decode cX12_put 82 = .ok (.iaload, 1) := by decide +kernel
theorem dX12_put_83 : decode cX12_put 83 = .ok (.iconst 1, 1) := by decide +kernel
theorem dX12_put_84 : decode cX12_put 84 = .ok (.if_icmp .ne 8, 3) := by decide +kernel
theorem dX12_put_87 : decode cX12_put 87 = .ok (.iload_n 3, 1) := by decide +kernel
theorem dX12_put_88 : decode cX12_put 88 = .ok (.i2s, 1) := by decide +kernel
theorem dX12_put_89 : decode cX12_put 89 = .ok (.goto 4, 3) := by decide +kernel
theorem dX12_put_92 : decode cX12_put 92 = .ok (.iload_n 3, 1) := by decide +kernel
theorem dX12_put_93 : decode cX12_put 93 = .ok (.iastore, 1) := by decide +kernel
theorem dX12_put_94 : decode cX12_put 94 = .ok (.iconst 1, 1) := by decide +kernel
theorem dX12_put_95 : decode cX12_put 95 = .ok (.ireturn, 1) := by decide +kernel
theorem dX12_cell_0 : decode cX12_cell 0 = .ok (.aload_n 0, 1) := by decide +kernel
theorem dX12_cell_1 : decode cX12_cell 1 = .ok (.iconst 0, 1) := by decide +kernel
theorem dX12_cell_2 : decode cX12_cell 2 = .ok (.putfield 62, 3) := by decide +kernel
theorem dX12_cell_5 : decode cX12_cell 5 = .ok (.iload_n 1, 1) := by decide +kernel
theorem dX12_cell_6 : decode cX12_cell 6 = .ok (.invokestatic 85, 3) := by decide +kernel
theorem dX12_cell_9 : decode cX12_cell 9 = .ok (.ifCond .eq 10, 3) := by decide +kernel
theorem dX12_cell_12 : decode cX12_cell 12 = .ok (.iload_n 3, 1) := by decide +kernel
theorem dX12_cell_13 : decode cX12_cell 13 = .ok (.invokestatic 89, 3) := by decide +kernel
theorem dX12_cell_16 : decode cX12_cell 16 = .ok (.ifCond .ne 7, 3) := by decide +kernel
theorem dX12_cell_19 : decode cX12_cell 19 = .ok (.ldc2_w 66, 3) := by decide +kernel
theorem dX12_cell_22 : decode cX12_cell 22 = .ok (.lreturn, 1) := by decide +kernel
theorem dX12_cell_23 : decode cX12_cell 23 = .ok (.aload_n 0, 1) := by decide +kernel
theorem dX12_cell_24 : decode cX12_cell 24 = .ok (.getfield 9, 3) := by decide +kernel
theorem dX12_cell_27 : decode cX12_cell 27 = .ok (.iload_n 1, 1) := by decide +kernel
theorem dX12_cell_28 : decode cX12_cell 28 = .ok (.iaload, 1) := by decide +kernel
theorem dX12_cell_29 : decode cX12_cell 29 = .ok (.bipush (-9), 2) := by decide +kernel
theorem dX12_cell_31 : decode cX12_cell 31 = .ok (.if_icmp .eq 19, 3) := by decide +kernel
theorem dX12_cell_34 : decode cX12_cell 34 = .ok (.aload_n 0, 1) := by decide +kernel
theorem dX12_cell_35 : decode cX12_cell 35 = .ok (.getfield 9, 3) := by decide +kernel
theorem dX12_cell_38 : decode cX12_cell 38 = .ok (.iload_n 1, 1) := by decide +kernel
theorem dX12_cell_39 : decode cX12_cell 39 = .ok (.iaload, 1) := by decide +kernel
theorem dX12_cell_40 : decode cX12_cell 40 = .ok (.iload_n 3, 1) := by decide +kernel
theorem dX12_cell_41 : decode cX12_cell 41 = .ok (.if_icmp .eq 9, 3) := by decide +kernel
theorem dX12_cell_44 : decode cX12_cell 44 = .ok (.aload_n 0, 1) := by decide +kernel
theorem dX12_cell_45 : decode cX12_cell 45 = .ok (.iconst 2, 1) := by decide +kernel
theorem dX12_cell_46 : decode cX12_cell 46 = .ok (.invokevirtual 182, 3) := by decide +kernel
theorem dX12_cell_49 : decode cX12_cell 49 = .ok (.lreturn, 1) := by decide +kernel
theorem dX12_cell_50 : decode cX12_cell 50 = .ok (.aload_n 0, 1) := by decide +kernel
theorem dX12_cell_51 : decode cX12_cell 51 = .ok (.getfield 9, 3) := by decide +kernel
theorem dX12_cell_54 : decode cX12_cell 54 = .ok (.iload_n 1, 1) := by decide +kernel
theorem dX12_cell_55 : decode cX12_cell 55 = .ok (.iaload, 1) := by decide +kernel
theorem dX12_cell_56 : decode cX12_cell 56 = .ok (.bipush (-9), 2) := by decide +kernel
theorem dX12_cell_58 : decode cX12_cell 58 = .ok (.if_icmp .ne 9, 3) := by decide +kernel
theorem dX12_cell_61 : decode cX12_cell 61 = .ok (.aload_n 0, 1) := by decide +kernel
theorem dX12_cell_62 : decode cX12_cell 62 = .ok (.iconst 1, 1) := by decide +kernel
theorem dX12_cell_63 : decode cX12_cell 63 = .ok (.invokevirtual 182, 3) := by decide +kernel
theorem dX12_cell_66 : decode cX12_cell 66 = .ok (.lreturn, 1) := by decide +kernel
theorem dX12_cell_67 : decode cX12_cell 67 = .ok (.iload_n 2, 1) := by decide +kernel
theorem dX12_cell_68 : decode cX12_cell 68 = .ok (.iconst 0, 1) := by decide +kernel
theorem dX12_cell_69 : decode cX12_cell 69 = .ok (.aload_n 0, 1) := by decide +kernel
theorem dX12_cell_70 : decode cX12_cell 70 = .ok (.getfield 13, 3) := by decide +kernel
theorem dX12_cell_73 : decode cX12_cell 73 = .ok (.iload_n 1, 1) := by decide +kernel
theorem dX12_cell_74 : decode cX12_cell 74 = .ok (.iaload, 1) := by decide +kernel
theorem dX12_cell_75 : decode cX12_cell 75 = .ok (.iconst 1, 1) := by decide +kernel
theorem dX12_cell_76 : decode cX12_cell 76 = .ok (.isub, 1) := by decide +kernel
theorem dX12_cell_77 : decode cX12_cell 77 = .ok (.invokestatic 68, 3) := by decide +kernel
theorem dX12_cell_80 : decode cX12_cell 80 = .ok (.ifCond .ne 9, 3) := by decide +kernel
theorem dX12_cell_83 : decode cX12_cell 83 = .ok (.aload_n 0, 1) := by decide +kernel
theorem dX12_cell_84 : decode cX12_cell 84 = .ok (.iconst 3, 1) := by decide +kernel
theorem dX12_cell_85 : decode cX12_cell 85 = .ok (.invokevirtual 182, 3) := by decide +kernel
theorem dX12_cell_88 : decode cX12_cell 88 = .ok (.lreturn, 1) := by decide +kernel
theorem dX12_cell_89 : decode cX12_cell 89 = .ok (.aload_n 0, 1) := by decide +kernel
theorem dX12_cell_90 : decode cX12_cell 90 = .ok (.getfield 16, 3) := by decide +kernel
theorem dX12_cell_93 : decode cX12_cell 93 = .ok (.bipush 80, 2) := by decide +kernel
theorem dX12_cell_95 : decode cX12_cell 95 = .ok (.iload_n 1, 1) := by decide +kernel
theorem dX12_cell_96 : decode cX12_cell 96 = .ok (.imul, 1) := by decide +kernel
theorem dX12_cell_97 : decode cX12_cell 97 = .ok (.iload_n 2, 1) := by decide +kernel
theorem dX12_cell_98 : decode cX12_cell 98 = .ok (.iadd, 1) := by decide +kernel
theorem dX12_cell_99 : decode cX12_cell 99 = .ok (.iaload, 1) := by decide +kernel
theorem dX12_cell_100 : decode cX12_cell 100 = .ok (.i2l, 1) := by decide +kernel
theorem dX12_cell_101 : decode cX12_cell 101 = .ok (.lreturn, 1) := by decide +kernel
theorem dX12_copy_0 : decode cX12_copy 0 = .ok (.aload_n 0, 1) := by decide +kernel
theorem dX12_copy_1 : decode cX12_copy 1 = .ok (.iconst 0, 1) := by decide +kernel
theorem dX12_copy_2 : decode cX12_copy 2 = .ok (.putfield 62, 3) := by decide +kernel
theorem dX12_copy_5 : decode cX12_copy 5 = .ok (.iload_n 1, 1) := by decide +kernel
theorem dX12_copy_6 : decode cX12_copy 6 = .ok (.invokestatic 85, 3) := by decide +kernel
theorem dX12_copy_9 : decode cX12_copy 9 = .ok (.ifCond .eq 10, 3) := by decide +kernel
theorem dX12_copy_12 : decode cX12_copy 12 = .ok (.iload_n 3, 1) := by decide +kernel
theorem dX12_copy_13 : decode cX12_copy 13 = .ok (.invokestatic 85, 3) := by decide +kernel
theorem dX12_copy_16 : decode cX12_copy 16 = .ok (.ifCond .ne 5, 3) := by decide +kernel
theorem dX12_copy_19 : decode cX12_copy 19 = .ok (.iconst (-1), 1) := by decide +kernel
theorem dX12_copy_20 : decode cX12_copy 20 = .ok (.ireturn, 1) := by decide +kernel
theorem dX12_copy_21 : decode cX12_copy 21 = .ok (.aload_n 0, 1) := by decide +kernel
theorem dX12_copy_22 : decode cX12_copy 22 = .ok (.getfield 9, 3) := by decide +kernel
theorem dX12_copy_25 : decode cX12_copy 25 = .ok (.iload_n 1, 1) := by decide +kernel
theorem dX12_copy_26 : decode cX12_copy 26 = .ok (.iaload, 1) := by decide +kernel
theorem dX12_copy_27 : decode cX12_copy 27 = .ok (.bipush (-9), 2) := by decide +kernel
theorem dX12_copy_29 : decode cX12_copy 29 = .ok (.if_icmp .eq 14, 3) := by decide +kernel
theorem dX12_copy_32 : decode cX12_copy 32 = .ok (.aload_n 0, 1) := by decide +kernel
theorem dX12_copy_33 : decode cX12_copy 33 = .ok (.getfield 9, 3) := by decide +kernel
theorem dX12_copy_36 : decode cX12_copy 36 = .ok (.iload_n 3, 1) := by decide +kernel
theorem dX12_copy_37 : decode cX12_copy 37 = .ok (.iaload, 1) := by decide +kernel
theorem dX12_copy_38 : decode cX12_copy 38 = .ok (.bipush (-9), 2) := by decide +kernel
theorem dX12_copy_40 : decode cX12_copy 40 = .ok (.if_icmp .ne 9, 3) := by decide +kernel
theorem dX12_copy_43 : decode cX12_copy 43 = .ok (.aload_n 0, 1) := by decide +kernel
theorem dX12_copy_44 : decode cX12_copy 44 = .ok (.iconst 1, 1) := by decide +kernel
theorem dX12_copy_45 : decode cX12_copy 45 = .ok (.invokevirtual 96, 3) := by decide +kernel
theorem dX12_copy_48 : decode cX12_copy 48 = .ok (.ireturn, 1) := by decide +kernel
theorem dX12_copy_49 : decode cX12_copy 49 = .ok (.aload_n 0, 1) := by decide +kernel
theorem dX12_copy_50 : decode cX12_copy 50 = .ok (.getfield 9, 3) := by decide +kernel
theorem dX12_copy_53 : decode cX12_copy 53 = .ok (.iload_n 1, 1) := by decide +kernel
theorem dX12_copy_54 : decode cX12_copy 54 = .ok (.iaload, 1) := by decide +kernel
theorem dX12_copy_55 : decode cX12_copy 55 = .ok (.aload_n 0, 1) := by decide +kernel
theorem dX12_copy_56 : decode cX12_copy 56 = .ok (.getfield 9, 3) := by decide +kernel
theorem dX12_copy_59 : decode cX12_copy 59 = .ok (.iload_n 3, 1) := by decide +kernel
theorem dX12_copy_60 : decode cX12_copy 60 = .ok (.iaload, 1) := by decide +kernel
theorem dX12_copy_61 : decode cX12_copy 61 = .ok (.if_icmp .eq 9, 3) := by decide +kernel
theorem dX12_copy_64 : decode cX12_copy 64 = .ok (.aload_n 0, 1) := by decide +kernel
theorem dX12_copy_65 : decode cX12_copy 65 = .ok (.iconst 2, 1) := by decide +kernel
theorem dX12_copy_66 : decode cX12_copy 66 = .ok (.invokevirtual 96, 3) := by decide +kernel
theorem dX12_copy_69 : decode cX12_copy 69 = .ok (.ireturn, 1) := by decide +kernel
theorem dX12_copy_70 : decode cX12_copy 70 = .ok (.iload_n 2, 1) := by decide +kernel
theorem dX12_copy_71 : decode cX12_copy 71 = .ok (.ifCond .lt 38, 3) := by decide +kernel
theorem dX12_copy_74 : decode cX12_copy 74 = .ok (.iload 4, 2) := by decide +kernel
theorem dX12_copy_76 : decode cX12_copy 76 = .ok (.ifCond .lt 33, 3) := by decide +kernel
theorem dX12_copy_79 : decode cX12_copy 79 = .ok (.iload 5, 2) := by decide +kernel
theorem dX12_copy_81 : decode cX12_copy 81 = .ok (.ifCond .lt 28, 3) := by decide +kernel
theorem dX12_copy_84 : decode cX12_copy 84 = .ok (.iload_n 2, 1) := by decide +kernel
theorem dX12_copy_85 : decode cX12_copy 85 = .ok (.aload_n 0, 1) := by decide +kernel
theorem dX12_copy_86 : decode cX12_copy 86 = .ok (.getfield 13, 3) := by decide +kernel
theorem dX12_copy_89 : decode cX12_copy 89 = .ok (.iload_n 1, 1) := by decide +kernel
theorem dX12_copy_90 : decode cX12_copy 90 = .ok (.iaload, 1) := by decide +kernel
theorem dX12_copy_91 : decode cX12_copy 91 = .ok (.if_icmp .gt 18, 3) := by decide +kernel
theorem dX12_copy_94 : decode cX12_copy 94 = .ok (.iload 4, 2) := by decide +kernel
theorem dX12_copy_96 : decode cX12_copy 96 = .ok (.aload_n 0, 1) := by decide +kernel
theorem dX12_copy_97 : decode cX12_copy 97 = .ok (.getfield 13, 3) := by decide +kernel
theorem dX12_copy_100 : decode cX12_copy 100 = .ok (.iload_n 3, 1) := by decide +kernel
theorem dX12_copy_101 : decode cX12_copy 101 = .ok (.iaload, 1) := by decide +kernel
theorem dX12_copy_102 : decode cX12_copy 102 = .ok (.if_icmp .gt 7, 3) := by decide +kernel
theorem dX12_copy_105 : decode cX12_copy 105 = .ok (.iconst 1, 1) := by decide +kernel
theorem dX12_copy_106 : decode cX12_copy 106 = .ok (.goto 4, 3) := by decide +kernel
theorem dX12_copy_109 : decode cX12_copy 109 = .ok (.iconst 0, 1) := by decide +kernel
theorem dX12_copy_110 : decode cX12_copy 110 = .ok (.istore 6, 2) := by decide +kernel
theorem dX12_copy_112 : decode cX12_copy 112 = .ok (.iload 6, 2) := by decide +kernel
theorem dX12_copy_114 : decode cX12_copy 114 = .ok (.ifCond .eq 30, 3) := by decide +kernel
theorem dX12_copy_117 : decode cX12_copy 117 = .ok (.iload 5, 2) := by decide +kernel
theorem dX12_copy_119 : decode cX12_copy 119 = .ok (.aload_n 0, 1) := by decide +kernel
theorem dX12_copy_120 : decode cX12_copy 120 = .ok (.getfield 13, 3) := by decide +kernel
theorem dX12_copy_123 : decode cX12_copy 123 = .ok (.iload_n 1, 1) := by decide +kernel
theorem dX12_copy_124 : decode cX12_copy 124 = .ok (.iaload, 1) := by decide +kernel
theorem dX12_copy_125 : decode cX12_copy 125 = .ok (.iload_n 2, 1) := by decide +kernel
theorem dX12_copy_126 : decode cX12_copy 126 = .ok (.isub, 1) := by decide +kernel
theorem dX12_copy_127 : decode cX12_copy 127 = .ok (.if_icmp .gt 17, 3) := by decide +kernel
theorem dX12_copy_130 : decode cX12_copy 130 = .ok (.iload 5, 2) := by decide +kernel
theorem dX12_copy_132 : decode cX12_copy 132 = .ok (.aload_n 0, 1) := by decide +kernel
theorem dX12_copy_133 : decode cX12_copy 133 = .ok (.getfield 13, 3) := by decide +kernel
theorem dX12_copy_136 : decode cX12_copy 136 = .ok (.iload_n 3, 1) := by decide +kernel
theorem dX12_copy_137 : decode cX12_copy 137 = .ok (.iaload, 1) := by decide +kernel
theorem dX12_copy_138 : decode cX12_copy 138 = .ok (.iload 4, 2) := by decide +kernel
theorem dX12_copy_140 : decode cX12_copy 140 = .ok (.isub, 1) := by decide +kernel
theorem dX12_copy_141 : decode cX12_copy 141 = .ok (.if_icmp .le 9, 3) := by decide +kernel
theorem dX12_copy_144 : decode cX12_copy 144 = .ok (.aload_n 0, 1) := by decide +kernel
theorem dX12_copy_145 : decode cX12_copy 145 = .ok (.iconst 3, 1) := by decide +kernel
theorem dX12_copy_146 : decode cX12_copy 146 = .ok (.invokevirtual 96, 3) := by decide +kernel
theorem dX12_copy_149 : decode cX12_copy 149 = .ok (.ireturn, 1) := by decide +kernel
theorem dX12_copy_150 : decode cX12_copy 150 = .ok (.iload_n 2, 1) := by decide +kernel
theorem dX12_copy_151 : decode cX12_copy 151 = .ok (.iload 4, 2) := by decide +kernel
theorem dX12_copy_153 : decode cX12_copy 153 = .ok (.if_icmp .ge 7, 3) := by decide +kernel
theorem dX12_copy_156 : decode cX12_copy 156 = .ok (.iconst 1, 1) := by decide +kernel
theorem dX12_copy_157 : decode cX12_copy 157 = .ok (.goto 4, 3) := by decide +kernel
theorem dX12_copy_160 : decode cX12_copy 160 = .ok (.iconst 0, 1) := by decide +kernel
theorem dX12_copy_161 : decode cX12_copy 161 = .ok (.istore 7, 2) := by decide +kernel
theorem dX12_copy_163 : decode cX12_copy 163 = .ok (.iconst 0, 1) := by decide +kernel
theorem dX12_copy_164 : decode cX12_copy 164 = .ok (.istore 8, 2) := by decide +kernel
theorem dX12_copy_166 : decode cX12_copy 166 = .ok (.iload 8, 2) := by decide +kernel
theorem dX12_copy_168 : decode cX12_copy 168 = .ok (.iload 5, 2) := by decide +kernel
theorem dX12_copy_170 : decode cX12_copy 170 = .ok (.if_icmp .ge 57, 3) := by decide +kernel
theorem dX12_copy_173 : decode cX12_copy 173 = .ok (.iload 7, 2) := by decide +kernel
theorem dX12_copy_175 : decode cX12_copy 175 = .ok (.ifCond .eq 13, 3) := by decide +kernel
theorem dX12_copy_178 : decode cX12_copy 178 = .ok (.iload 5, 2) := by decide +kernel
theorem dX12_copy_180 : decode cX12_copy 180 = .ok (.iconst 1, 1) := by decide +kernel
theorem dX12_copy_181 : decode cX12_copy 181 = .ok (.isub, 1) := by decide +kernel
theorem dX12_copy_182 : decode cX12_copy 182 = .ok (.iload 8, 2) := by decide +kernel
theorem dX12_copy_184 : decode cX12_copy 184 = .ok (.isub, 1) := by decide +kernel
theorem dX12_copy_185 : decode cX12_copy 185 = .ok (.goto 5, 3) := by decide +kernel
theorem dX12_copy_188 : decode cX12_copy 188 = .ok (.iload 8, 2) := by decide +kernel
theorem dX12_copy_190 : decode cX12_copy 190 = .ok (.istore 9, 2) := by decide +kernel
theorem dX12_copy_192 : decode cX12_copy 192 = .ok (.aload_n 0, 1) := by decide +kernel
theorem dX12_copy_193 : decode cX12_copy 193 = .ok (.getfield 16, 3) := by decide +kernel
theorem dX12_copy_196 : decode cX12_copy 196 = .ok (.bipush 80, 2) := by decide +kernel
theorem dX12_copy_198 : decode cX12_copy 198 = .ok (.iload_n 3, 1) := by decide +kernel
theorem dX12_copy_199 : decode cX12_copy 199 = .ok (.imul, 1) := by decide +kernel
theorem dX12_copy_200 : decode cX12_copy 200 = .ok (.iload 4, 2) := by decide +kernel
theorem dX12_copy_202 : decode cX12_copy 202 = .ok (.iadd, 1) := by decide +kernel
theorem dX12_copy_203 : decode cX12_copy 203 = .ok (.iload 9, 2) := by decide +kernel
theorem dX12_copy_205 : decode cX12_copy 205 = .ok (.iadd, 1) := by decide +kernel
theorem dX12_copy_206 : decode cX12_copy 206 = .ok (.aload_n 0, 1) := by decide +kernel
theorem dX12_copy_207 : decode cX12_copy 207 = .ok (.getfield 16, 3) := by decide +kernel
theorem dX12_copy_210 : decode cX12_copy 210 = .ok (.bipush 80, 2) := by decide +kernel
theorem dX12_copy_212 : decode cX12_copy 212 = .ok (.iload_n 1, 1) := by decide +kernel
theorem dX12_copy_213 : decode cX12_copy 213 = .ok (.imul, 1) := by decide +kernel
theorem dX12_copy_214 : decode cX12_copy 214 = .ok (.iload_n 2, 1) := by decide +kernel
theorem dX12_copy_215 : decode cX12_copy 215 = .ok (.iadd, 1) := by decide +kernel
theorem dX12_copy_216 : decode cX12_copy 216 = .ok (.iload 9, 2) := by decide +kernel
theorem dX12_copy_218 : decode cX12_copy 218 = .ok (.iadd, 1) := by decide +kernel
theorem dX12_copy_219 : decode cX12_copy 219 = .ok (.iaload, 1) := by decide +kernel
theorem dX12_copy_220 : decode cX12_copy 220 = .ok (.iastore, 1) := by decide +kernel
theorem dX12_copy_221 : decode cX12_copy 221 = .ok (.iinc 8 1, 3) := by decide +kernel
theorem dX12_copy_224 : decode cX12_copy 224 = .ok (.goto (-58), 3) := by decide +kernel
theorem dX12_copy_227 : decode cX12_copy 227 = .ok (.iload 5, 2) := by decide +kernel
theorem dX12_copy_229 : decode cX12_copy 229 = .ok (.ireturn, 1) := by decide +kernel
theorem dX12_begins_0 : decode cX12_begins 0 = .ok (.aload_n 0, 1) := by decide +kernel
theorem dX12_begins_1 : decode cX12_begins 1 = .ok (.bipush 31, 2) := by decide +kernel
theorem dX12_begins_3 : decode cX12_begins 3 = .ok (.aload_n 0, 1) := by decide +kernel
theorem dX12_begins_4 : decode cX12_begins 4 = .ok (.getfield 186, 3) := by decide +kernel
theorem dX12_begins_7 : decode cX12_begins 7 = .ok (.imul, 1) := by decide +kernel
theorem dX12_begins_8 : decode cX12_begins 8 = .ok (.iload_n 1, 1) := by decide +kernel
theorem dX12_begins_9 : decode cX12_begins 9 = .ok (.iadd, 1) := by decide +kernel
theorem dX12_begins_10 : decode cX12_begins 10 = .ok (.putfield 186, 3) := by decide +kernel
theorem dX12_begins_13 : decode cX12_begins 13 = .ok (.return_, 1) := by decide +kernel
theorem dX12_tell_0 : decode cX12_tell 0 = .ok (.aload_n 0, 1) := by decide +kernel
theorem dX12_tell_1 : decode cX12_tell 1 = .ok (.iload_n 1, 1) := by decide +kernel
theorem dX12_tell_2 : decode cX12_tell 2 = .ok (.invokevirtual 120, 3) := by decide +kernel
theorem dX12_tell_5 : decode cX12_tell 5 = .ok (.ifCond .ne 5, 3) := by decide +kernel
theorem dX12_tell_8 : decode cX12_tell 8 = .ok (.iconst (-1), 1) := by decide +kernel
theorem dX12_tell_9 : decode cX12_tell 9 = .ok (.ireturn, 1) := by decide +kernel
theorem dX12_tell_10 : decode cX12_tell 10 = .ok (.aload_n 0, 1) := by decide +kernel
theorem dX12_tell_11 : decode cX12_tell 11 = .ok (.getfield 22, 3) := by decide +kernel
theorem dX12_tell_14 : decode cX12_tell 14 = .ok (.iload_n 1, 1) := by decide +kernel
theorem dX12_tell_15 : decode cX12_tell 15 = .ok (.iaload, 1) := by decide +kernel
theorem dX12_tell_16 : decode cX12_tell 16 = .ok (.istore_n 2, 1) := by decide +kernel
theorem dX12_tell_17 : decode cX12_tell 17 = .ok (.aload_n 0, 1) := by decide +kernel
theorem dX12_tell_18 : decode cX12_tell 18 = .ok (.getfield 19, 3) := by decide +kernel
theorem dX12_tell_21 : decode cX12_tell 21 = .ok (.iload_n 1, 1) := by decide +kernel
theorem dX12_tell_22 : decode cX12_tell 22 = .ok (.iaload, 1) := by decide +kernel
theorem dX12_tell_23 : decode cX12_tell 23 = .ok (.lookupswitch 67 #[(1, 25), (2, 40)], 25) := by decide +kernel
theorem dX12_tell_48 : decode cX12_tell 48 = .ok (.aload_n 0, 1) := by decide +kernel
theorem dX12_tell_49 : decode cX12_tell 49 = .ok (.iconst 2, 1) := by decide +kernel
theorem dX12_tell_50 : decode cX12_tell 50 = .ok (.invokevirtual 189, 3) := by decide +kernel
theorem dX12_tell_53 : decode cX12_tell 53 = .ok (.aload_n 0, 1) := by decide +kernel
theorem dX12_tell_54 : decode cX12_tell 54 = .ok (.iconst 1, 1) := by decide +kernel
theorem dX12_tell_55 : decode cX12_tell 55 = .ok (.invokevirtual 189, 3) := by decide +kernel
theorem dX12_tell_58 : decode cX12_tell 58 = .ok (.iload_n 2, 1) := by decide +kernel
theorem dX12_tell_59 : decode cX12_tell 59 = .ok (.bipush 100, 2) := by decide +kernel
theorem dX12_tell_61 : decode cX12_tell 61 = .ok (.iadd, 1) := by decide +kernel
theorem dX12_tell_62 : decode cX12_tell 62 = .ok (.ireturn, 1) := by decide +kernel
theorem dX12_tell_63 : decode cX12_tell 63 = .ok (.aload_n 0, 1) := by decide +kernel
theorem dX12_tell_64 : decode cX12_tell 64 = .ok (.iconst 3, 1) := by decide +kernel
theorem dX12_tell_65 : decode cX12_tell 65 = .ok (.invokevirtual 189, 3) := by decide +kernel
theorem dX12_tell_68 : decode cX12_tell 68 = .ok (.aload_n 0, 1) := by decide +kernel
theorem dX12_tell_69 : decode cX12_tell 69 = .ok (.iconst 2, 1) := by decide +kernel
theorem dX12_tell_70 : decode cX12_tell 70 = .ok (.invokevirtual 189, 3) := by decide +kernel
theorem dX12_tell_73 : decode cX12_tell 73 = .ok (.aload_n 0, 1) := by decide +kernel
theorem dX12_tell_74 : decode cX12_tell 74 = .ok (.iconst 1, 1) := by decide +kernel
theorem dX12_tell_75 : decode cX12_tell 75 = .ok (.invokevirtual 189, 3) := by decide +kernel
theorem dX12_tell_78 : decode cX12_tell 78 = .ok (.aload_n 0, 1) := by decide +kernel
theorem dX12_tell_79 : decode cX12_tell 79 = .ok (.iconst 1, 1) := by decide +kernel
theorem dX12_tell_80 : decode cX12_tell 80 = .ok (.invokevirtual 189, 3) := by decide +kernel
theorem dX12_tell_83 : decode cX12_tell 83 = .ok (.iconst 2, 1) := by decide +kernel
theorem dX12_tell_84 : decode cX12_tell 84 = .ok (.iload_n 2, 1) := by decide +kernel
theorem dX12_tell_85 : decode cX12_tell 85 = .ok (.imul, 1) := by decide +kernel
theorem dX12_tell_86 : decode cX12_tell 86 = .ok (.bipush 100, 2) := by decide +kernel
theorem dX12_tell_88 : decode cX12_tell 88 = .ok (.iadd, 1) := by decide +kernel
theorem dX12_tell_89 : decode cX12_tell 89 = .ok (.ireturn, 1) := by decide +kernel
theorem dX12_tell_90 : decode cX12_tell 90 = .ok (.aload_n 0, 1) := by decide +kernel
theorem dX12_tell_91 : decode cX12_tell 91 = .ok (.iconst 1, 1) := by decide +kernel
theorem dX12_tell_92 : decode cX12_tell 92 = .ok (.invokevirtual 189, 3) := by decide +kernel
theorem dX12_tell_95 : decode cX12_tell 95 = .ok (.iload_n 2, 1) := by decide +kernel
theorem dX12_tell_96 : decode cX12_tell 96 = .ok (.ireturn, 1) := by decide +kernel
theorem dX12_tread_0 : decode cX12_tread 0 = .ok (.aload_n 0, 1) := by decide +kernel
theorem dX12_tread_1 : decode cX12_tread 1 = .ok (.iload_n 1, 1) := by decide +kernel
theorem dX12_tread_2 : decode cX12_tread 2 = .ok (.invokevirtual 120, 3) := by decide +kernel
theorem dX12_tread_5 : decode cX12_tread 5 = .ok (.ifCond .ne 5, 3) := by decide +kernel
theorem dX12_tread_8 : decode cX12_tread 8 = .ok (.iconst (-1), 1) := by decide +kernel
theorem dX12_tread_9 : decode cX12_tread 9 = .ok (.ireturn, 1) := by decide +kernel
theorem dX12_tread_10 : decode cX12_tread 10 = .ok (.aload_n 0, 1) := by decide +kernel
theorem dX12_tread_11 : decode cX12_tread 11 = .ok (.aload_n 0, 1) := by decide +kernel
theorem dX12_tread_12 : decode cX12_tread 12 = .ok (.getfield 19, 3) := by decide +kernel
theorem dX12_tread_15 : decode cX12_tread 15 = .ok (.iload_n 1, 1) := by decide +kernel
theorem dX12_tread_16 : decode cX12_tread 16 = .ok (.iaload, 1) := by decide +kernel
theorem dX12_tread_17 : decode cX12_tread 17 = .ok (.iconst 2, 1) := by decide +kernel
theorem dX12_tread_18 : decode cX12_tread 18 = .ok (.if_icmp .ne 7, 3) := by decide +kernel
theorem dX12_tread_21 : decode cX12_tread 21 = .ok (.iconst 5, 1) := by decide +kernel
theorem dX12_tread_22 : decode cX12_tread 22 = .ok (.goto 4, 3) := by decide +kernel
theorem dX12_tread_25 : decode cX12_tread 25 = .ok (.iconst 4, 1) := by decide +kernel
theorem dX12_tread_26 : decode cX12_tread 26 = .ok (.invokevirtual 189, 3) := by decide +kernel
theorem dX12_tread_29 : decode cX12_tread 29 = .ok (.aload_n 0, 1) := by decide +kernel
theorem dX12_tread_30 : decode cX12_tread 30 = .ok (.getfield 19, 3) := by decide +kernel
theorem dX12_tread_33 : decode cX12_tread 33 = .ok (.iload_n 1, 1) := by decide +kernel
theorem dX12_tread_34 : decode cX12_tread 34 = .ok (.iaload, 1) := by decide +kernel
theorem dX12_tread_35 : decode cX12_tread 35 = .ok (.iconst 2, 1) := by decide +kernel
theorem dX12_tread_36 : decode cX12_tread 36 = .ok (.if_icmp .ne 8, 3) := by decide +kernel
theorem dX12_tread_39 : decode cX12_tread 39 = .ok (.bipush 50, 2) := by decide +kernel
theorem dX12_tread_41 : decode cX12_tread 41 = .ok (.goto 4, 3) := by decide +kernel
theorem dX12_tread_44 : decode cX12_tread 44 = .ok (.iload_n 1, 1) := by decide +kernel
theorem dX12_tread_45 : decode cX12_tread 45 = .ok (.ireturn, 1) := by decide +kernel
theorem dX12_as_0 : decode cX12_as 0 = .ok (.aload_n 0, 1) := by decide +kernel
theorem dX12_as_1 : decode cX12_as 1 = .ok (.iconst 0, 1) := by decide +kernel
theorem dX12_as_2 : decode cX12_as 2 = .ok (.putfield 62, 3) := by decide +kernel
theorem dX12_as_5 : decode cX12_as 5 = .ok (.aload_n 0, 1) := by decide +kernel
theorem dX12_as_6 : decode cX12_as 6 = .ok (.iload_n 1, 1) := by decide +kernel
theorem dX12_as_7 : decode cX12_as 7 = .ok (.invokevirtual 120, 3) := by decide +kernel
theorem dX12_as_10 : decode cX12_as 10 = .ok (.ifCond .ne 5, 3) := by decide +kernel
theorem dX12_as_13 : decode cX12_as 13 = .ok (.iconst (-1), 1) := by decide +kernel
theorem dX12_as_14 : decode cX12_as 14 = .ok (.ireturn, 1) := by decide +kernel
theorem dX12_as_15 : decode cX12_as 15 = .ok (.iload_n 2, 1) := by decide +kernel
theorem dX12_as_16 : decode cX12_as 16 = .ok (.iconst 0, 1) := by decide +kernel
theorem dX12_as_17 : decode cX12_as 17 = .ok (.iconst 2, 1) := by decide +kernel
theorem dX12_as_18 : decode cX12_as 18 = .ok (.invokestatic 68, 3) := by decide +kernel
theorem dX12_as_21 : decode cX12_as 21 = .ok (.ifCond .ne 6, 3) := by decide +kernel
theorem dX12_as_24 : decode cX12_as 24 = .ok (.bipush (-2), 2) := by decide +kernel
theorem dX12_as_26 : decode cX12_as 26 = .ok (.ireturn, 1) := by decide +kernel
theorem dX12_as_27 : decode cX12_as 27 = .ok (.aload_n 0, 1) := by decide +kernel
theorem dX12_as_28 : decode cX12_as 28 = .ok (.getfield 19, 3) := by decide +kernel
theorem dX12_as_31 : decode cX12_as 31 = .ok (.iload_n 1, 1) := by decide +kernel
theorem dX12_as_32 : decode cX12_as 32 = .ok (.iaload, 1) := by decide +kernel
theorem dX12_as_33 : decode cX12_as 33 = .ok (.iload_n 2, 1) := by decide +kernel
theorem dX12_as_34 : decode cX12_as 34 = .ok (.if_icmp .lt 7, 3) := by decide +kernel
theorem dX12_as_37 : decode cX12_as 37 = .ok (.iconst 1, 1) := by decide +kernel
theorem dX12_as_38 : decode cX12_as 38 = .ok (.goto 8, 3) := by decide +kernel
theorem dX12_as_41 : decode cX12_as 41 = .ok (.aload_n 0, 1) := by decide +kernel
theorem dX12_as_42 : decode cX12_as 42 = .ok (.iconst 2, 1) := by decide +kernel
theorem dX12_as_43 : decode cX12_as 43 = .ok (.invokevirtual 96, 3) := by decide +kernel
theorem dX12_as_46 : decode cX12_as 46 = .ok (.ireturn, 1) := by decide +kernel
theorem dX12_trace_0 : decode cX12_trace 0 = .ok (.aload_n 0, 1) := by decide +kernel
theorem dX12_trace_1 : decode cX12_trace 1 = .ok (.getfield 186, 3) := by decide +kernel
theorem dX12_trace_4 : decode cX12_trace 4 = .ok (.ireturn, 1) := by decide +kernel
theorem dX12_fault_0 : decode cX12_fault 0 = .ok (.aload_n 0, 1) := by decide +kernel
theorem dX12_fault_1 : decode cX12_fault 1 = .ok (.getfield 62, 3) := by decide +kernel
theorem dX12_fault_4 : decode cX12_fault 4 = .ok (.ireturn, 1) := by decide +kernel
theorem dX12_many_0 : decode cX12_many 0 = .ok (.iload_n 1, 1) := by decide +kernel
theorem dX12_many_1 : decode cX12_many 1 = .ok (.ifCond .ne 10, 3) := by decide +kernel
theorem dX12_many_4 : decode cX12_many 4 = .ok (.aload_n 0, 1) := by decide +kernel
theorem dX12_many_5 : decode cX12_many 5 = .ok (.invokevirtual 78, 3) := by decide +kernel
theorem dX12_many_8 : decode cX12_many 8 = .ok (.goto 29, 3) := by decide +kernel
theorem dX12_many_11 : decode cX12_many 11 = .ok (.iload_n 1, 1) := by decide +kernel
theorem dX12_many_12 : decode cX12_many 12 = .ok (.iconst 1, 1) := by decide +kernel
theorem dX12_many_13 : decode cX12_many 13 = .ok (.if_icmp .ne 10, 3) := by decide +kernel
theorem dX12_many_16 : decode cX12_many 16 = .ok (.aload_n 0, 1) := by decide +kernel
theorem dX12_many_17 : decode cX12_many 17 = .ok (.getfield 75, 3) := by decide +kernel
theorem dX12_many_20 : decode cX12_many 20 = .ok (.goto 17, 3) := by decide +kernel
theorem dX12_many_23 : decode cX12_many 23 = .ok (.iload_n 1, 1) := by decide +kernel
theorem dX12_many_24 : decode cX12_many 24 = .ok (.iconst 2, 1) := by decide +kernel
theorem dX12_many_25 : decode cX12_many 25 = .ok (.if_icmp .ne 10, 3) := by decide +kernel
theorem dX12_many_28 : decode cX12_many 28 = .ok (.aload_n 0, 1) := by decide +kernel
theorem dX12_many_29 : decode cX12_many 29 = .ok (.getfield 109, 3) := by decide +kernel
theorem dX12_many_32 : decode cX12_many 32 = .ok (.goto 5, 3) := by decide +kernel
theorem dX12_many_35 : decode cX12_many 35 = .ok (.bipush (-2), 2) := by decide +kernel
theorem dX12_many_37 : decode cX12_many 37 = .ok (.ireturn, 1) := by decide +kernel
end
section
theorem dL_law_0 : decode cL_law 0 = .ok (.new 7, 3) := by decide +kernel
theorem dL_law_3 : decode cL_law 3 = .ok (.dup, 1) := by decide +kernel
theorem dL_law_4 : decode cL_law 4 = .ok (.invokespecial 9, 3) := by decide +kernel
theorem dL_law_7 : decode cL_law 7 = .ok (.astore_n 1, 1) := by decide +kernel
theorem dL_law_8 : decode cL_law 8 = .ok (.new 10, 3) := by decide +kernel
theorem dL_law_11 : decode cL_law 11 = .ok (.dup, 1) := by decide +kernel
theorem dL_law_12 : decode cL_law 12 = .ok (.invokespecial 12, 3) := by decide +kernel
theorem dL_law_15 : decode cL_law 15 = .ok (.astore_n 2, 1) := by decide +kernel
theorem dL_law_16 : decode cL_law 16 = .ok (.iconst 0, 1) := by decide +kernel
theorem dL_law_17 : decode cL_law 17 = .ok (.istore_n 3, 1) := by decide +kernel
theorem dL_law_18 : decode cL_law 18 = .ok (.iload_n 3, 1) := by decide +kernel
theorem dL_law_19 : decode cL_law 19 = .ok (.aload_n 0, 1) := by decide +kernel
theorem dL_law_20 : decode cL_law 20 = .ok (.arraylength, 1) := by decide +kernel
theorem dL_law_21 : decode cL_law 21 = .ok (.bipush 6, 2) := by decide +kernel
theorem dL_law_23 : decode cL_law 23 = .ok (.isub, 1) := by decide +kernel
theorem dL_law_24 : decode cL_law 24 = .ok (.if_icmp .gt 1315, 3) := by decide +kernel
theorem dL_law_27 : decode cL_law 27 = .ok (.aload_n 0, 1) := by decide +kernel
theorem dL_law_28 : decode cL_law 28 = .ok (.iload_n 3, 1) := by decide +kernel
theorem dL_law_29 : decode cL_law 29 = .ok (.iaload, 1) := by decide +kernel
theorem dL_law_30 : decode cL_law 30 = .ok (.bipush 31, 2) := by decide +kernel
theorem dL_law_32 : decode cL_law 32 = .ok (.iand, 1) := by decide +kernel
theorem dL_law_33 : decode cL_law 33 = .ok (.tableswitch 1300 0 31 #[143, 196, 229, 272, 305, 338, 371, 434, 497, 540, 573, 606, 639, 682, 715, 738, 781, 824, 867, 910, 933, 956, 999, 1022, 1065, 1109, 1172, 1195, 1218, 1251, 1264, 1277], 143) := by decide +kernel
theorem dL_law_176 : decode cL_law 176 = .ok (.aload_n 1, 1) := by decide +kernel
theorem dL_law_177 : decode cL_law 177 = .ok (.aload_n 0, 1) := by decide +kernel
theorem dL_law_178 : decode cL_law 178 = .ok (.iload_n 3, 1) := by decide +kernel
theorem dL_law_179 : decode cL_law 179 = .ok (.iconst 1, 1) := by decide +kernel
theorem dL_law_180 : decode cL_law 180 = .ok (.iadd, 1) := by decide +kernel
theorem dL_law_181 : decode cL_law 181 = .ok (.iaload, 1) := by decide +kernel
theorem dL_law_182 : decode cL_law 182 = .ok (.aload_n 0, 1) := by decide +kernel
theorem dL_law_183 : decode cL_law 183 = .ok (.iload_n 3, 1) := by decide +kernel
theorem dL_law_184 : decode cL_law 184 = .ok (.iconst 2, 1) := by decide +kernel
theorem dL_law_185 : decode cL_law 185 = .ok (.iadd, 1) := by decide +kernel
theorem dL_law_186 : decode cL_law 186 = .ok (.iaload, 1) := by decide +kernel
theorem dL_law_187 : decode cL_law 187 = .ok (.aload_n 0, 1) := by decide +kernel
theorem dL_law_188 : decode cL_law 188 = .ok (.iload_n 3, 1) := by decide +kernel
theorem dL_law_189 : decode cL_law 189 = .ok (.iconst 3, 1) := by decide +kernel
theorem dL_law_190 : decode cL_law 190 = .ok (.iadd, 1) := by decide +kernel
theorem dL_law_191 : decode cL_law 191 = .ok (.iaload, 1) := by decide +kernel
theorem dL_law_192 : decode cL_law 192 = .ok (.aload_n 0, 1) := by decide +kernel
theorem dL_law_193 : decode cL_law 193 = .ok (.iload_n 3, 1) := by decide +kernel
theorem dL_law_194 : decode cL_law 194 = .ok (.iconst 4, 1) := by decide +kernel
theorem dL_law_195 : decode cL_law 195 = .ok (.iadd, 1) := by decide +kernel
theorem dL_law_196 : decode cL_law 196 = .ok (.iaload, 1) := by decide +kernel
theorem dL_law_197 : decode cL_law 197 = .ok (.invokevirtual 13, 3) := by decide +kernel
theorem dL_law_200 : decode cL_law 200 = .ok (.aload_n 2, 1) := by decide +kernel
theorem dL_law_201 : decode cL_law 201 = .ok (.aload_n 0, 1) := by decide +kernel
theorem dL_law_202 : decode cL_law 202 = .ok (.iload_n 3, 1) := by decide +kernel
theorem dL_law_203 : decode cL_law 203 = .ok (.iconst 1, 1) := by decide +kernel
theorem dL_law_204 : decode cL_law 204 = .ok (.iadd, 1) := by decide +kernel
theorem dL_law_205 : decode cL_law 205 = .ok (.iaload, 1) := by decide +kernel
theorem dL_law_206 : decode cL_law 206 = .ok (.aload_n 0, 1) := by decide +kernel
theorem dL_law_207 : decode cL_law 207 = .ok (.iload_n 3, 1) := by decide +kernel
theorem dL_law_208 : decode cL_law 208 = .ok (.iconst 2, 1) := by decide +kernel
theorem dL_law_209 : decode cL_law 209 = .ok (.iadd, 1) := by decide +kernel
theorem dL_law_210 : decode cL_law 210 = .ok (.iaload, 1) := by decide +kernel
theorem dL_law_211 : decode cL_law 211 = .ok (.aload_n 0, 1) := by decide +kernel
theorem dL_law_212 : decode cL_law 212 = .ok (.iload_n 3, 1) := by decide +kernel
theorem dL_law_213 : decode cL_law 213 = .ok (.iconst 3, 1) := by decide +kernel
theorem dL_law_214 : decode cL_law 214 = .ok (.iadd, 1) := by decide +kernel
theorem dL_law_215 : decode cL_law 215 = .ok (.iaload, 1) := by decide +kernel
theorem dL_law_216 : decode cL_law 216 = .ok (.aload_n 0, 1) := by decide +kernel
theorem dL_law_217 : decode cL_law 217 = .ok (.iload_n 3, 1) := by decide +kernel
theorem dL_law_218 : decode cL_law 218 = .ok (.iconst 4, 1) := by decide +kernel
theorem dL_law_219 : decode cL_law 219 = .ok (.iadd, 1) := by decide +kernel
theorem dL_law_220 : decode cL_law 220 = .ok (.iaload, 1) := by decide +kernel
theorem dL_law_221 : decode cL_law 221 = .ok (.invokevirtual 17, 3) := by decide +kernel
theorem dL_law_224 : decode cL_law 224 = .ok (.if_icmp .eq 1109, 3) := by decide +kernel
theorem dL_law_227 : decode cL_law 227 = .ok (.iconst 0, 1) := by decide +kernel
theorem dL_law_228 : decode cL_law 228 = .ok (.ireturn, 1) := by decide +kernel
theorem dL_law_229 : decode cL_law 229 = .ok (.aload_n 1, 1) := by decide +kernel
theorem dL_law_230 : decode cL_law 230 = .ok (.aload_n 0, 1) := by decide +kernel
theorem dL_law_231 : decode cL_law 231 = .ok (.iload_n 3, 1) := by decide +kernel
theorem dL_law_232 : decode cL_law 232 = .ok (.iconst 1, 1) := by decide +kernel
theorem dL_law_233 : decode cL_law 233 = .ok (.iadd, 1) := by decide +kernel
theorem dL_law_234 : decode cL_law 234 = .ok (.iaload, 1) := by decide +kernel
theorem dL_law_235 : decode cL_law 235 = .ok (.aload_n 0, 1) := by decide +kernel
theorem dL_law_236 : decode cL_law 236 = .ok (.iload_n 3, 1) := by decide +kernel
theorem dL_law_237 : decode cL_law 237 = .ok (.iconst 2, 1) := by decide +kernel
theorem dL_law_238 : decode cL_law 238 = .ok (.iadd, 1) := by decide +kernel
theorem dL_law_239 : decode cL_law 239 = .ok (.iaload, 1) := by decide +kernel
theorem dL_law_240 : decode cL_law 240 = .ok (.invokevirtual 18, 3) := by decide +kernel
theorem dL_law_243 : decode cL_law 243 = .ok (.aload_n 2, 1) := by decide +kernel
theorem dL_law_244 : decode cL_law 244 = .ok (.aload_n 0, 1) := by decide +kernel
theorem dL_law_245 : decode cL_law 245 = .ok (.iload_n 3, 1) := by decide +kernel
theorem dL_law_246 : decode cL_law 246 = .ok (.iconst 1, 1) := by decide +kernel
theorem dL_law_247 : decode cL_law 247 = .ok (.iadd, 1) := by decide +kernel
theorem dL_law_248 : decode cL_law 248 = .ok (.iaload, 1) := by decide +kernel
theorem dL_law_249 : decode cL_law 249 = .ok (.aload_n 0, 1) := by decide +kernel
theorem dL_law_250 : decode cL_law 250 = .ok (.iload_n 3, 1) := by decide +kernel
theorem dL_law_251 : decode cL_law 251 = .ok (.iconst 2, 1) := by decide +kernel
theorem dL_law_252 : decode cL_law 252 = .ok (.iadd, 1) := by decide +kernel
theorem dL_law_253 : decode cL_law 253 = .ok (.iaload, 1) := by decide +kernel
theorem dL_law_254 : decode cL_law 254 = .ok (.invokevirtual 22, 3) := by decide +kernel
theorem dL_law_257 : decode cL_law 257 = .ok (.if_icmp .eq 1076, 3) := by decide +kernel
theorem dL_law_260 : decode cL_law 260 = .ok (.iconst 0, 1) := by decide +kernel
theorem dL_law_261 : decode cL_law 261 = .ok (.ireturn, 1) := by decide +kernel
theorem dL_law_262 : decode cL_law 262 = .ok (.aload_n 1, 1) := by decide +kernel
theorem dL_law_263 : decode cL_law 263 = .ok (.aload_n 0, 1) := by decide +kernel
theorem dL_law_264 : decode cL_law 264 = .ok (.iload_n 3, 1) := by decide +kernel
theorem dL_law_265 : decode cL_law 265 = .ok (.iconst 1, 1) := by decide +kernel
theorem dL_law_266 : decode cL_law 266 = .ok (.iadd, 1) := by decide +kernel
theorem dL_law_267 : decode cL_law 267 = .ok (.iaload, 1) := by decide +kernel
theorem dL_law_268 : decode cL_law 268 = .ok (.aload_n 0, 1) := by decide +kernel
theorem dL_law_269 : decode cL_law 269 = .ok (.iload_n 3, 1) := by decide +kernel
theorem dL_law_270 : decode cL_law 270 = .ok (.iconst 2, 1) := by decide +kernel
theorem dL_law_271 : decode cL_law 271 = .ok (.iadd, 1) := by decide +kernel
theorem dL_law_272 : decode cL_law 272 = .ok (.iaload, 1) := by decide +kernel
theorem dL_law_273 : decode cL_law 273 = .ok (.aload_n 0, 1) := by decide +kernel
theorem dL_law_274 : decode cL_law 274 = .ok (.iload_n 3, 1) := by decide +kernel
theorem dL_law_275 : decode cL_law 275 = .ok (.iconst 3, 1) := by decide +kernel
theorem dL_law_276 : decode cL_law 276 = .ok (.iadd, 1) := by decide +kernel
theorem dL_law_277 : decode cL_law 277 = .ok (.iaload, 1) := by decide +kernel
theorem dL_law_278 : decode cL_law 278 = .ok (.invokevirtual 23, 3) := by decide +kernel
theorem dL_law_281 : decode cL_law 281 = .ok (.aload_n 2, 1) := by decide +kernel
theorem dL_law_282 : decode cL_law 282 = .ok (.aload_n 0, 1) := by decide +kernel
theorem dL_law_283 : decode cL_law 283 = .ok (.iload_n 3, 1) := by decide +kernel
theorem dL_law_284 : decode cL_law 284 = .ok (.iconst 1, 1) := by decide +kernel
theorem dL_law_285 : decode cL_law 285 = .ok (.iadd, 1) := by decide +kernel
theorem dL_law_286 : decode cL_law 286 = .ok (.iaload, 1) := by decide +kernel
theorem dL_law_287 : decode cL_law 287 = .ok (.aload_n 0, 1) := by decide +kernel
theorem dL_law_288 : decode cL_law 288 = .ok (.iload_n 3, 1) := by decide +kernel
theorem dL_law_289 : decode cL_law 289 = .ok (.iconst 2, 1) := by decide +kernel
theorem dL_law_290 : decode cL_law 290 = .ok (.iadd, 1) := by decide +kernel
theorem dL_law_291 : decode cL_law 291 = .ok (.iaload, 1) := by decide +kernel
theorem dL_law_292 : decode cL_law 292 = .ok (.aload_n 0, 1) := by decide +kernel
theorem dL_law_293 : decode cL_law 293 = .ok (.iload_n 3, 1) := by decide +kernel
theorem dL_law_294 : decode cL_law 294 = .ok (.iconst 3, 1) := by decide +kernel
theorem dL_law_295 : decode cL_law 295 = .ok (.iadd, 1) := by decide +kernel
theorem dL_law_296 : decode cL_law 296 = .ok (.iaload, 1) := by decide +kernel
theorem dL_law_297 : decode cL_law 297 = .ok (.invokevirtual 27, 3) := by decide +kernel
theorem dL_law_300 : decode cL_law 300 = .ok (.if_icmp .eq 1033, 3) := by decide +kernel
theorem dL_law_303 : decode cL_law 303 = .ok (.iconst 0, 1) := by decide +kernel
theorem dL_law_304 : decode cL_law 304 = .ok (.ireturn, 1) := by decide +kernel
theorem dL_law_305 : decode cL_law 305 = .ok (.aload_n 1, 1) := by decide +kernel
theorem dL_law_306 : decode cL_law 306 = .ok (.aload_n 0, 1) := by decide +kernel
theorem dL_law_307 : decode cL_law 307 = .ok (.iload_n 3, 1) := by decide +kernel
theorem dL_law_308 : decode cL_law 308 = .ok (.iconst 1, 1) := by decide +kernel
theorem dL_law_309 : decode cL_law 309 = .ok (.iadd, 1) := by decide +kernel
theorem dL_law_310 : decode cL_law 310 = .ok (.iaload, 1) := by decide +kernel
theorem dL_law_311 : decode cL_law 311 = .ok (.aload_n 0, 1) := by decide +kernel
theorem dL_law_312 : decode cL_law 312 = .ok (.iload_n 3, 1) := by decide +kernel
theorem dL_law_313 : decode cL_law 313 = .ok (.iconst 2, 1) := by decide +kernel
theorem dL_law_314 : decode cL_law 314 = .ok (.iadd, 1) := by decide +kernel
theorem dL_law_315 : decode cL_law 315 = .ok (.iaload, 1) := by decide +kernel
theorem dL_law_316 : decode cL_law 316 = .ok (.invokevirtual 28, 3) := by decide +kernel
theorem dL_law_319 : decode cL_law 319 = .ok (.aload_n 2, 1) := by decide +kernel
theorem dL_law_320 : decode cL_law 320 = .ok (.aload_n 0, 1) := by decide +kernel
theorem dL_law_321 : decode cL_law 321 = .ok (.iload_n 3, 1) := by decide +kernel
theorem dL_law_322 : decode cL_law 322 = .ok (.iconst 1, 1) := by decide +kernel
theorem dL_law_323 : decode cL_law 323 = .ok (.iadd, 1) := by decide +kernel
theorem dL_law_324 : decode cL_law 324 = .ok (.iaload, 1) := by decide +kernel
theorem dL_law_325 : decode cL_law 325 = .ok (.aload_n 0, 1) := by decide +kernel
theorem dL_law_326 : decode cL_law 326 = .ok (.iload_n 3, 1) := by decide +kernel
theorem dL_law_327 : decode cL_law 327 = .ok (.iconst 2, 1) := by decide +kernel
theorem dL_law_328 : decode cL_law 328 = .ok (.iadd, 1) := by decide +kernel
theorem dL_law_329 : decode cL_law 329 = .ok (.iaload, 1) := by decide +kernel
theorem dL_law_330 : decode cL_law 330 = .ok (.invokevirtual 31, 3) := by decide +kernel
theorem dL_law_333 : decode cL_law 333 = .ok (.if_icmp .eq 1000, 3) := by decide +kernel
theorem dL_law_336 : decode cL_law 336 = .ok (.iconst 0, 1) := by decide +kernel
theorem dL_law_337 : decode cL_law 337 = .ok (.ireturn, 1) := by decide +kernel
theorem dL_law_338 : decode cL_law 338 = .ok (.aload_n 1, 1) := by decide +kernel
theorem dL_law_339 : decode cL_law 339 = .ok (.aload_n 0, 1) := by decide +kernel
theorem dL_law_340 : decode cL_law 340 = .ok (.iload_n 3, 1) := by decide +kernel
theorem dL_law_341 : decode cL_law 341 = .ok (.iconst 1, 1) := by decide +kernel
theorem dL_law_342 : decode cL_law 342 = .ok (.iadd, 1) := by decide +kernel
theorem dL_law_343 : decode cL_law 343 = .ok (.iaload, 1) := by decide +kernel
theorem dL_law_344 : decode cL_law 344 = .ok (.aload_n 0, 1) := by decide +kernel
theorem dL_law_345 : decode cL_law 345 = .ok (.iload_n 3, 1) := by decide +kernel
theorem dL_law_346 : decode cL_law 346 = .ok (.iconst 2, 1) := by decide +kernel
theorem dL_law_347 : decode cL_law 347 = .ok (.iadd, 1) := by decide +kernel
theorem dL_law_348 : decode cL_law 348 = .ok (.iaload, 1) := by decide +kernel
theorem dL_law_349 : decode cL_law 349 = .ok (.invokevirtual 32, 3) := by decide +kernel
theorem dL_law_352 : decode cL_law 352 = .ok (.aload_n 2, 1) := by decide +kernel
theorem dL_law_353 : decode cL_law 353 = .ok (.aload_n 0, 1) := by decide +kernel
theorem dL_law_354 : decode cL_law 354 = .ok (.iload_n 3, 1) := by decide +kernel
theorem dL_law_355 : decode cL_law 355 = .ok (.iconst 1, 1) := by decide +kernel
theorem dL_law_356 : decode cL_law 356 = .ok (.iadd, 1) := by decide +kernel
theorem dL_law_357 : decode cL_law 357 = .ok (.iaload, 1) := by decide +kernel
theorem dL_law_358 : decode cL_law 358 = .ok (.aload_n 0, 1) := by decide +kernel
theorem dL_law_359 : decode cL_law 359 = .ok (.iload_n 3, 1) := by decide +kernel
theorem dL_law_360 : decode cL_law 360 = .ok (.iconst 2, 1) := by decide +kernel
theorem dL_law_361 : decode cL_law 361 = .ok (.iadd, 1) := by decide +kernel
theorem dL_law_362 : decode cL_law 362 = .ok (.iaload, 1) := by decide +kernel
theorem dL_law_363 : decode cL_law 363 = .ok (.invokevirtual 35, 3) := by decide +kernel
theorem dL_law_366 : decode cL_law 366 = .ok (.if_icmp .eq 967, 3) := by decide +kernel
theorem dL_law_369 : decode cL_law 369 = .ok (.iconst 0, 1) := by decide +kernel
theorem dL_law_370 : decode cL_law 370 = .ok (.ireturn, 1) := by decide +kernel
theorem dL_law_371 : decode cL_law 371 = .ok (.aload_n 1, 1) := by decide +kernel
theorem dL_law_372 : decode cL_law 372 = .ok (.aload_n 0, 1) := by decide +kernel
theorem dL_law_373 : decode cL_law 373 = .ok (.iload_n 3, 1) := by decide +kernel
theorem dL_law_374 : decode cL_law 374 = .ok (.iconst 1, 1) := by decide +kernel
theorem dL_law_375 : decode cL_law 375 = .ok (.iadd, 1) := by decide +kernel
theorem dL_law_376 : decode cL_law 376 = .ok (.iaload, 1) := by decide +kernel
theorem dL_law_377 : decode cL_law 377 = .ok (.aload_n 0, 1) := by decide +kernel
theorem dL_law_378 : decode cL_law 378 = .ok (.iload_n 3, 1) := by decide +kernel
theorem dL_law_379 : decode cL_law 379 = .ok (.iconst 2, 1) := by decide +kernel
theorem dL_law_380 : decode cL_law 380 = .ok (.iadd, 1) := by decide +kernel
theorem dL_law_381 : decode cL_law 381 = .ok (.iaload, 1) := by decide +kernel
theorem dL_law_382 : decode cL_law 382 = .ok (.invokevirtual 36, 3) := by decide +kernel
theorem dL_law_385 : decode cL_law 385 = .ok (.aload_n 2, 1) := by decide +kernel
theorem dL_law_386 : decode cL_law 386 = .ok (.aload_n 0, 1) := by decide +kernel
theorem dL_law_387 : decode cL_law 387 = .ok (.iload_n 3, 1) := by decide +kernel
theorem dL_law_388 : decode cL_law 388 = .ok (.iconst 1, 1) := by decide +kernel
theorem dL_law_389 : decode cL_law 389 = .ok (.iadd, 1) := by decide +kernel
theorem dL_law_390 : decode cL_law 390 = .ok (.iaload, 1) := by decide +kernel
theorem dL_law_391 : decode cL_law 391 = .ok (.aload_n 0, 1) := by decide +kernel
theorem dL_law_392 : decode cL_law 392 = .ok (.iload_n 3, 1) := by decide +kernel
theorem dL_law_393 : decode cL_law 393 = .ok (.iconst 2, 1) := by decide +kernel
theorem dL_law_394 : decode cL_law 394 = .ok (.iadd, 1) := by decide +kernel
theorem dL_law_395 : decode cL_law 395 = .ok (.iaload, 1) := by decide +kernel
theorem dL_law_396 : decode cL_law 396 = .ok (.invokevirtual 39, 3) := by decide +kernel
theorem dL_law_399 : decode cL_law 399 = .ok (.if_icmp .eq 934, 3) := by decide +kernel
theorem dL_law_402 : decode cL_law 402 = .ok (.iconst 0, 1) := by decide +kernel
theorem dL_law_403 : decode cL_law 403 = .ok (.ireturn, 1) := by decide +kernel
theorem dL_law_404 : decode cL_law 404 = .ok (.aload_n 1, 1) := by decide +kernel
theorem dL_law_405 : decode cL_law 405 = .ok (.aload_n 0, 1) := by decide +kernel
theorem dL_law_406 : decode cL_law 406 = .ok (.iload_n 3, 1) := by decide +kernel
theorem dL_law_407 : decode cL_law 407 = .ok (.iconst 1, 1) := by decide +kernel
theorem dL_law_408 : decode cL_law 408 = .ok (.iadd, 1) := by decide +kernel
theorem dL_law_409 : decode cL_law 409 = .ok (.iaload, 1) := by decide +kernel
theorem dL_law_410 : decode cL_law 410 = .ok (.aload_n 0, 1) := by decide +kernel
theorem dL_law_411 : decode cL_law 411 = .ok (.iload_n 3, 1) := by decide +kernel
theorem dL_law_412 : decode cL_law 412 = .ok (.iconst 2, 1) := by decide +kernel
theorem dL_law_413 : decode cL_law 413 = .ok (.iadd, 1) := by decide +kernel
theorem dL_law_414 : decode cL_law 414 = .ok (.iaload, 1) := by decide +kernel
theorem dL_law_415 : decode cL_law 415 = .ok (.aload_n 0, 1) := by decide +kernel
theorem dL_law_416 : decode cL_law 416 = .ok (.iload_n 3, 1) := by decide +kernel
theorem dL_law_417 : decode cL_law 417 = .ok (.iconst 3, 1) := by decide +kernel
theorem dL_law_418 : decode cL_law 418 = .ok (.iadd, 1) := by decide +kernel
theorem dL_law_419 : decode cL_law 419 = .ok (.iaload, 1) := by decide +kernel
theorem dL_law_420 : decode cL_law 420 = .ok (.aload_n 0, 1) := by decide +kernel
theorem dL_law_421 : decode cL_law 421 = .ok (.iload_n 3, 1) := by decide +kernel
theorem dL_law_422 : decode cL_law 422 = .ok (.iconst 4, 1) := by decide +kernel
theorem dL_law_423 : decode cL_law 423 = .ok (.iadd, 1) := by decide +kernel
theorem dL_law_424 : decode cL_law 424 = .ok (.iaload, 1) := by decide +kernel
theorem dL_law_425 : decode cL_law 425 = .ok (.aload_n 0, 1) := by decide +kernel
theorem dL_law_426 : decode cL_law 426 = .ok (.iload_n 3, 1) := by decide +kernel
theorem dL_law_427 : decode cL_law 427 = .ok (.iconst 5, 1) := by decide +kernel
theorem dL_law_428 : decode cL_law 428 = .ok (.iadd, 1) := by decide +kernel
theorem dL_law_429 : decode cL_law 429 = .ok (.iaload, 1) := by decide +kernel
theorem dL_law_430 : decode cL_law 430 = .ok (.invokevirtual 40, 3) := by decide +kernel
theorem dL_law_433 : decode cL_law 433 = .ok (.aload_n 2, 1) := by decide +kernel
theorem dL_law_434 : decode cL_law 434 = .ok (.aload_n 0, 1) := by decide +kernel
theorem dL_law_435 : decode cL_law 435 = .ok (.iload_n 3, 1) := by decide +kernel
theorem dL_law_436 : decode cL_law 436 = .ok (.iconst 1, 1) := by decide +kernel
theorem dL_law_437 : decode cL_law 437 = .ok (.iadd, 1) := by decide +kernel
theorem dL_law_438 : decode cL_law 438 = .ok (.iaload, 1) := by decide +kernel
theorem dL_law_439 : decode cL_law 439 = .ok (.aload_n 0, 1) := by decide +kernel
theorem dL_law_440 : decode cL_law 440 = .ok (.iload_n 3, 1) := by decide +kernel
theorem dL_law_441 : decode cL_law 441 = .ok (.iconst 2, 1) := by decide +kernel
theorem dL_law_442 : decode cL_law 442 = .ok (.iadd, 1) := by decide +kernel
theorem dL_law_443 : decode cL_law 443 = .ok (.iaload, 1) := by decide +kernel
theorem dL_law_444 : decode cL_law 444 = .ok (.aload_n 0, 1) := by decide +kernel
theorem dL_law_445 : decode cL_law 445 = .ok (.iload_n 3, 1) := by decide +kernel
theorem dL_law_446 : decode cL_law 446 = .ok (.iconst 3, 1) := by decide +kernel
theorem dL_law_447 : decode cL_law 447 = .ok (.iadd, 1) := by decide +kernel
theorem dL_law_448 : decode cL_law 448 = .ok (.iaload, 1) := by decide +kernel
theorem dL_law_449 : decode cL_law 449 = .ok (.aload_n 0, 1) := by decide +kernel
theorem dL_law_450 : decode cL_law 450 = .ok (.iload_n 3, 1) := by decide +kernel
theorem dL_law_451 : decode cL_law 451 = .ok (.iconst 4, 1) := by decide +kernel
theorem dL_law_452 : decode cL_law 452 = .ok (.iadd, 1) := by decide +kernel
theorem dL_law_453 : decode cL_law 453 = .ok (.iaload, 1) := by decide +kernel
theorem dL_law_454 : decode cL_law 454 = .ok (.aload_n 0, 1) := by decide +kernel
theorem dL_law_455 : decode cL_law 455 = .ok (.iload_n 3, 1) := by decide +kernel
theorem dL_law_456 : decode cL_law 456 = .ok (.iconst 5, 1) := by decide +kernel
theorem dL_law_457 : decode cL_law 457 = .ok (.iadd, 1) := by decide +kernel
theorem dL_law_458 : decode cL_law 458 = .ok (.iaload, 1) := by decide +kernel
theorem dL_law_459 : decode cL_law 459 = .ok (.invokevirtual 44, 3) := by decide +kernel
theorem dL_law_462 : decode cL_law 462 = .ok (.if_icmp .eq 871, 3) := by decide +kernel
theorem dL_law_465 : decode cL_law 465 = .ok (.iconst 0, 1) := by decide +kernel
theorem dL_law_466 : decode cL_law 466 = .ok (.ireturn, 1) := by decide +kernel
theorem dL_law_467 : decode cL_law 467 = .ok (.aload_n 1, 1) := by decide +kernel
theorem dL_law_468 : decode cL_law 468 = .ok (.aload_n 0, 1) := by decide +kernel
theorem dL_law_469 : decode cL_law 469 = .ok (.iload_n 3, 1) := by decide +kernel
theorem dL_law_470 : decode cL_law 470 = .ok (.iconst 1, 1) := by decide +kernel
theorem dL_law_471 : decode cL_law 471 = .ok (.iadd, 1) := by decide +kernel
theorem dL_law_472 : decode cL_law 472 = .ok (.iaload, 1) := by decide +kernel
theorem dL_law_473 : decode cL_law 473 = .ok (.aload_n 0, 1) := by decide +kernel
theorem dL_law_474 : decode cL_law 474 = .ok (.iload_n 3, 1) := by decide +kernel
theorem dL_law_475 : decode cL_law 475 = .ok (.iconst 2, 1) := by decide +kernel
theorem dL_law_476 : decode cL_law 476 = .ok (.iadd, 1) := by decide +kernel
theorem dL_law_477 : decode cL_law 477 = .ok (.iaload, 1) := by decide +kernel
theorem dL_law_478 : decode cL_law 478 = .ok (.aload_n 0, 1) := by decide +kernel
theorem dL_law_479 : decode cL_law 479 = .ok (.iload_n 3, 1) := by decide +kernel
theorem dL_law_480 : decode cL_law 480 = .ok (.iconst 3, 1) := by decide +kernel
theorem dL_law_481 : decode cL_law 481 = .ok (.iadd, 1) := by decide +kernel
theorem dL_law_482 : decode cL_law 482 = .ok (.iaload, 1) := by decide +kernel
theorem dL_law_483 : decode cL_law 483 = .ok (.aload_n 0, 1) := by decide +kernel
theorem dL_law_484 : decode cL_law 484 = .ok (.iload_n 3, 1) := by decide +kernel
theorem dL_law_485 : decode cL_law 485 = .ok (.iconst 4, 1) := by decide +kernel
theorem dL_law_486 : decode cL_law 486 = .ok (.iadd, 1) := by decide +kernel
theorem dL_law_487 : decode cL_law 487 = .ok (.iaload, 1) := by decide +kernel
theorem dL_law_488 : decode cL_law 488 = .ok (.aload_n 0, 1) := by decide +kernel
theorem dL_law_489 : decode cL_law 489 = .ok (.iload_n 3, 1) := by decide +kernel
theorem dL_law_490 : decode cL_law 490 = .ok (.iconst 5, 1) := by decide +kernel
theorem dL_law_491 : decode cL_law 491 = .ok (.iadd, 1) := by decide +kernel
theorem dL_law_492 : decode cL_law 492 = .ok (.iaload, 1) := by decide +kernel
theorem dL_law_493 : decode cL_law 493 = .ok (.invokevirtual 45, 3) := by decide +kernel
theorem dL_law_496 : decode cL_law 496 = .ok (.aload_n 2, 1) := by decide +kernel
theorem dL_law_497 : decode cL_law 497 = .ok (.aload_n 0, 1) := by decide +kernel
theorem dL_law_498 : decode cL_law 498 = .ok (.iload_n 3, 1) := by decide +kernel
theorem dL_law_499 : decode cL_law 499 = .ok (.iconst 1, 1) := by decide +kernel
theorem dL_law_500 : decode cL_law 500 = .ok (.iadd, 1) := by decide +kernel
theorem dL_law_501 : decode cL_law 501 = .ok (.iaload, 1) := by decide +kernel
theorem dL_law_502 : decode cL_law 502 = .ok (.aload_n 0, 1) := by decide +kernel
theorem dL_law_503 : decode cL_law 503 = .ok (.iload_n 3, 1) := by decide +kernel
theorem dL_law_504 : decode cL_law 504 = .ok (.iconst 2, 1) := by decide +kernel
theorem dL_law_505 : decode cL_law 505 = .ok (.iadd, 1) := by decide +kernel
theorem dL_law_506 : decode cL_law 506 = .ok (.iaload, 1) := by decide +kernel
theorem dL_law_507 : decode cL_law 507 = .ok (.aload_n 0, 1) := by decide +kernel
theorem dL_law_508 : decode cL_law 508 = .ok (.iload_n 3, 1) := by decide +kernel
theorem dL_law_509 : decode cL_law 509 = .ok (.iconst 3, 1) := by decide +kernel
theorem dL_law_510 : decode cL_law 510 = .ok (.iadd, 1) := by decide +kernel
theorem dL_law_511 : decode cL_law 511 = .ok (.iaload, 1) := by decide +kernel
theorem dL_law_512 : decode cL_law 512 = .ok (.aload_n 0, 1) := by decide +kernel
theorem dL_law_513 : decode cL_law 513 = .ok (.iload_n 3, 1) := by decide +kernel
theorem dL_law_514 : decode cL_law 514 = .ok (.iconst 4, 1) := by decide +kernel
theorem dL_law_515 : decode cL_law 515 = .ok (.iadd, 1) := by decide +kernel
theorem dL_law_516 : decode cL_law 516 = .ok (.iaload, 1) := by decide +kernel
theorem dL_law_517 : decode cL_law 517 = .ok (.aload_n 0, 1) := by decide +kernel
theorem dL_law_518 : decode cL_law 518 = .ok (.iload_n 3, 1) := by decide +kernel
theorem dL_law_519 : decode cL_law 519 = .ok (.iconst 5, 1) := by decide +kernel
theorem dL_law_520 : decode cL_law 520 = .ok (.iadd, 1) := by decide +kernel
theorem dL_law_521 : decode cL_law 521 = .ok (.iaload, 1) := by decide +kernel
theorem dL_law_522 : decode cL_law 522 = .ok (.invokevirtual 48, 3) := by decide +kernel
theorem dL_law_525 : decode cL_law 525 = .ok (.if_icmp .eq 808, 3) := by decide +kernel
theorem dL_law_528 : decode cL_law 528 = .ok (.iconst 0, 1) := by decide +kernel
theorem dL_law_529 : decode cL_law 529 = .ok (.ireturn, 1) := by decide +kernel
theorem dL_law_530 : decode cL_law 530 = .ok (.aload_n 1, 1) := by decide +kernel
theorem dL_law_531 : decode cL_law 531 = .ok (.aload_n 0, 1) := by decide +kernel
theorem dL_law_532 : decode cL_law 532 = .ok (.iload_n 3, 1) := by decide +kernel
theorem dL_law_533 : decode cL_law 533 = .ok (.iconst 1, 1) := by decide +kernel
theorem dL_law_534 : decode cL_law 534 = .ok (.iadd, 1) := by decide +kernel
theorem dL_law_535 : decode cL_law 535 = .ok (.iaload, 1) := by decide +kernel
theorem dL_law_536 : decode cL_law 536 = .ok (.aload_n 0, 1) := by decide +kernel
theorem dL_law_537 : decode cL_law 537 = .ok (.iload_n 3, 1) := by decide +kernel
theorem dL_law_538 : decode cL_law 538 = .ok (.iconst 2, 1) := by decide +kernel
theorem dL_law_539 : decode cL_law 539 = .ok (.iadd, 1) := by decide +kernel
theorem dL_law_540 : decode cL_law 540 = .ok (.iaload, 1) := by decide +kernel
theorem dL_law_541 : decode cL_law 541 = .ok (.aload_n 0, 1) := by decide +kernel
theorem dL_law_542 : decode cL_law 542 = .ok (.iload_n 3, 1) := by decide +kernel
theorem dL_law_543 : decode cL_law 543 = .ok (.iconst 3, 1) := by decide +kernel
theorem dL_law_544 : decode cL_law 544 = .ok (.iadd, 1) := by decide +kernel
theorem dL_law_545 : decode cL_law 545 = .ok (.iaload, 1) := by decide +kernel
theorem dL_law_546 : decode cL_law 546 = .ok (.invokevirtual 49, 3) := by decide +kernel
theorem dL_law_549 : decode cL_law 549 = .ok (.aload_n 2, 1) := by decide +kernel
theorem dL_law_550 : decode cL_law 550 = .ok (.aload_n 0, 1) := by decide +kernel
theorem dL_law_551 : decode cL_law 551 = .ok (.iload_n 3, 1) := by decide +kernel
theorem dL_law_552 : decode cL_law 552 = .ok (.iconst 1, 1) := by decide +kernel
theorem dL_law_553 : decode cL_law 553 = .ok (.iadd, 1) := by decide +kernel
theorem dL_law_554 : decode cL_law 554 = .ok (.iaload, 1) := by decide +kernel
theorem dL_law_555 : decode cL_law 555 = .ok (.aload_n 0, 1) := by decide +kernel
theorem dL_law_556 : decode cL_law 556 = .ok (.iload_n 3, 1) := by decide +kernel
theorem dL_law_557 : decode cL_law 557 = .ok (.iconst 2, 1) := by decide +kernel
theorem dL_law_558 : decode cL_law 558 = .ok (.iadd, 1) := by decide +kernel
theorem dL_law_559 : decode cL_law 559 = .ok (.iaload, 1) := by decide +kernel
theorem dL_law_560 : decode cL_law 560 = .ok (.aload_n 0, 1) := by decide +kernel
theorem dL_law_561 : decode cL_law 561 = .ok (.iload_n 3, 1) := by decide +kernel
theorem dL_law_562 : decode cL_law 562 = .ok (.iconst 3, 1) := by decide +kernel
theorem dL_law_563 : decode cL_law 563 = .ok (.iadd, 1) := by decide +kernel
theorem dL_law_564 : decode cL_law 564 = .ok (.iaload, 1) := by decide +kernel
theorem dL_law_565 : decode cL_law 565 = .ok (.invokevirtual 52, 3) := by decide +kernel
theorem dL_law_568 : decode cL_law 568 = .ok (.if_icmp .eq 765, 3) := by decide +kernel
theorem dL_law_571 : decode cL_law 571 = .ok (.iconst 0, 1) := by decide +kernel
theorem dL_law_572 : decode cL_law 572 = .ok (.ireturn, 1) := by decide +kernel
theorem dL_law_573 : decode cL_law 573 = .ok (.aload_n 1, 1) := by decide +kernel
theorem dL_law_574 : decode cL_law 574 = .ok (.aload_n 0, 1) := by decide +kernel
theorem dL_law_575 : decode cL_law 575 = .ok (.iload_n 3, 1) := by decide +kernel
theorem dL_law_576 : decode cL_law 576 = .ok (.iconst 1, 1) := by decide +kernel
theorem dL_law_577 : decode cL_law 577 = .ok (.iadd, 1) := by decide +kernel
theorem dL_law_578 : decode cL_law 578 = .ok (.iaload, 1) := by decide +kernel
theorem dL_law_579 : decode cL_law 579 = .ok (.aload_n 0, 1) := by decide +kernel
theorem dL_law_580 : decode cL_law 580 = .ok (.iload_n 3, 1) := by decide +kernel
theorem dL_law_581 : decode cL_law 581 = .ok (.iconst 2, 1) := by decide +kernel
theorem dL_law_582 : decode cL_law 582 = .ok (.iadd, 1) := by decide +kernel
theorem dL_law_583 : decode cL_law 583 = .ok (.iaload, 1) := by decide +kernel
theorem dL_law_584 : decode cL_law 584 = .ok (.invokevirtual 53, 3) := by decide +kernel
theorem dL_law_587 : decode cL_law 587 = .ok (.aload_n 2, 1) := by decide +kernel
theorem dL_law_588 : decode cL_law 588 = .ok (.aload_n 0, 1) := by decide +kernel
theorem dL_law_589 : decode cL_law 589 = .ok (.iload_n 3, 1) := by decide +kernel
theorem dL_law_590 : decode cL_law 590 = .ok (.iconst 1, 1) := by decide +kernel
theorem dL_law_591 : decode cL_law 591 = .ok (.iadd, 1) := by decide +kernel
theorem dL_law_592 : decode cL_law 592 = .ok (.iaload, 1) := by decide +kernel
theorem dL_law_593 : decode cL_law 593 = .ok (.aload_n 0, 1) := by decide +kernel
theorem dL_law_594 : decode cL_law 594 = .ok (.iload_n 3, 1) := by decide +kernel
theorem dL_law_595 : decode cL_law 595 = .ok (.iconst 2, 1) := by decide +kernel
theorem dL_law_596 : decode cL_law 596 = .ok (.iadd, 1) := by decide +kernel
theorem dL_law_597 : decode cL_law 597 = .ok (.iaload, 1) := by decide +kernel
theorem dL_law_598 : decode cL_law 598 = .ok (.invokevirtual 56, 3) := by decide +kernel
theorem dL_law_601 : decode cL_law 601 = .ok (.if_icmp .eq 732, 3) := by decide +kernel
theorem dL_law_604 : decode cL_law 604 = .ok (.iconst 0, 1) := by decide +kernel
theorem dL_law_605 : decode cL_law 605 = .ok (.ireturn, 1) := by decide +kernel
theorem dL_law_606 : decode cL_law 606 = .ok (.aload_n 1, 1) := by decide +kernel
theorem dL_law_607 : decode cL_law 607 = .ok (.aload_n 0, 1) := by decide +kernel
theorem dL_law_608 : decode cL_law 608 = .ok (.iload_n 3, 1) := by decide +kernel
theorem dL_law_609 : decode cL_law 609 = .ok (.iconst 1, 1) := by decide +kernel
theorem dL_law_610 : decode cL_law 610 = .ok (.iadd, 1) := by decide +kernel
theorem dL_law_611 : decode cL_law 611 = .ok (.iaload, 1) := by decide +kernel
theorem dL_law_612 : decode cL_law 612 = .ok (.aload_n 0, 1) := by decide +kernel
theorem dL_law_613 : decode cL_law 613 = .ok (.iload_n 3, 1) := by decide +kernel
theorem dL_law_614 : decode cL_law 614 = .ok (.iconst 2, 1) := by decide +kernel
theorem dL_law_615 : decode cL_law 615 = .ok (.iadd, 1) := by decide +kernel
theorem dL_law_616 : decode cL_law 616 = .ok (.iaload, 1) := by decide +kernel
theorem dL_law_617 : decode cL_law 617 = .ok (.invokevirtual 57, 3) := by decide +kernel
theorem dL_law_620 : decode cL_law 620 = .ok (.aload_n 2, 1) := by decide +kernel
theorem dL_law_621 : decode cL_law 621 = .ok (.aload_n 0, 1) := by decide +kernel
theorem dL_law_622 : decode cL_law 622 = .ok (.iload_n 3, 1) := by decide +kernel
theorem dL_law_623 : decode cL_law 623 = .ok (.iconst 1, 1) := by decide +kernel
theorem dL_law_624 : decode cL_law 624 = .ok (.iadd, 1) := by decide +kernel
theorem dL_law_625 : decode cL_law 625 = .ok (.iaload, 1) := by decide +kernel
theorem dL_law_626 : decode cL_law 626 = .ok (.aload_n 0, 1) := by decide +kernel
theorem dL_law_627 : decode cL_law 627 = .ok (.iload_n 3, 1) := by decide +kernel
theorem dL_law_628 : decode cL_law 628 = .ok (.iconst 2, 1) := by decide +kernel
theorem dL_law_629 : decode cL_law 629 = .ok (.iadd, 1) := by decide +kernel
theorem dL_law_630 : decode cL_law 630 = .ok (.iaload, 1) := by decide +kernel
theorem dL_law_631 : decode cL_law 631 = .ok (.invokevirtual 60, 3) := by decide +kernel
theorem dL_law_634 : decode cL_law 634 = .ok (.if_icmp .eq 699, 3) := by decide +kernel
theorem dL_law_637 : decode cL_law 637 = .ok (.iconst 0, 1) := by decide +kernel
theorem dL_law_638 : decode cL_law 638 = .ok (.ireturn, 1) := by decide +kernel
theorem dL_law_639 : decode cL_law 639 = .ok (.aload_n 1, 1) := by decide +kernel
theorem dL_law_640 : decode cL_law 640 = .ok (.aload_n 0, 1) := by decide +kernel
theorem dL_law_641 : decode cL_law 641 = .ok (.iload_n 3, 1) := by decide +kernel
theorem dL_law_642 : decode cL_law 642 = .ok (.iconst 1, 1) := by decide +kernel
theorem dL_law_643 : decode cL_law 643 = .ok (.iadd, 1) := by decide +kernel
theorem dL_law_644 : decode cL_law 644 = .ok (.iaload, 1) := by decide +kernel
theorem dL_law_645 : decode cL_law 645 = .ok (.aload_n 0, 1) := by decide +kernel
theorem dL_law_646 : decode cL_law 646 = .ok (.iload_n 3, 1) := by decide +kernel
theorem dL_law_647 : decode cL_law 647 = .ok (.iconst 2, 1) := by decide +kernel
theorem dL_law_648 : decode cL_law 648 = .ok (.iadd, 1) := by decide +kernel
theorem dL_law_649 : decode cL_law 649 = .ok (.iaload, 1) := by decide +kernel
theorem dL_law_650 : decode cL_law 650 = .ok (.invokevirtual 61, 3) := by decide +kernel
theorem dL_law_653 : decode cL_law 653 = .ok (.aload_n 2, 1) := by decide +kernel
theorem dL_law_654 : decode cL_law 654 = .ok (.aload_n 0, 1) := by decide +kernel
theorem dL_law_655 : decode cL_law 655 = .ok (.iload_n 3, 1) := by decide +kernel
theorem dL_law_656 : decode cL_law 656 = .ok (.iconst 1, 1) := by decide +kernel
theorem dL_law_657 : decode cL_law 657 = .ok (.iadd, 1) := by decide +kernel
theorem dL_law_658 : decode cL_law 658 = .ok (.iaload, 1) := by decide +kernel
theorem dL_law_659 : decode cL_law 659 = .ok (.aload_n 0, 1) := by decide +kernel
theorem dL_law_660 : decode cL_law 660 = .ok (.iload_n 3, 1) := by decide +kernel
theorem dL_law_661 : decode cL_law 661 = .ok (.iconst 2, 1) := by decide +kernel
theorem dL_law_662 : decode cL_law 662 = .ok (.iadd, 1) := by decide +kernel
theorem dL_law_663 : decode cL_law 663 = .ok (.iaload, 1) := by decide +kernel
theorem dL_law_664 : decode cL_law 664 = .ok (.invokevirtual 64, 3) := by decide +kernel
theorem dL_law_667 : decode cL_law 667 = .ok (.if_icmp .eq 666, 3) := by decide +kernel
theorem dL_law_670 : decode cL_law 670 = .ok (.iconst 0, 1) := by decide +kernel
theorem dL_law_671 : decode cL_law 671 = .ok (.ireturn, 1) := by decide +kernel
theorem dL_law_672 : decode cL_law 672 = .ok (.aload_n 1, 1) := by decide +kernel
theorem dL_law_673 : decode cL_law 673 = .ok (.aload_n 0, 1) := by decide +kernel
theorem dL_law_674 : decode cL_law 674 = .ok (.iload_n 3, 1) := by decide +kernel
theorem dL_law_675 : decode cL_law 675 = .ok (.iconst 1, 1) := by decide +kernel
theorem dL_law_676 : decode cL_law 676 = .ok (.iadd, 1) := by decide +kernel
theorem dL_law_677 : decode cL_law 677 = .ok (.iaload, 1) := by decide +kernel
theorem dL_law_678 : decode cL_law 678 = .ok (.aload_n 0, 1) := by decide +kernel
theorem dL_law_679 : decode cL_law 679 = .ok (.iload_n 3, 1) := by decide +kernel
theorem dL_law_680 : decode cL_law 680 = .ok (.iconst 2, 1) := by decide +kernel
theorem dL_law_681 : decode cL_law 681 = .ok (.iadd, 1) := by decide +kernel
theorem dL_law_682 : decode cL_law 682 = .ok (.iaload, 1) := by decide +kernel
theorem dL_law_683 : decode cL_law 683 = .ok (.aload_n 0, 1) := by decide +kernel
theorem dL_law_684 : decode cL_law 684 = .ok (.iload_n 3, 1) := by decide +kernel
theorem dL_law_685 : decode cL_law 685 = .ok (.iconst 3, 1) := by decide +kernel
theorem dL_law_686 : decode cL_law 686 = .ok (.iadd, 1) := by decide +kernel
theorem dL_law_687 : decode cL_law 687 = .ok (.iaload, 1) := by decide +kernel
theorem dL_law_688 : decode cL_law 688 = .ok (.invokevirtual 65, 3) := by decide +kernel
theorem dL_law_691 : decode cL_law 691 = .ok (.aload_n 2, 1) := by decide +kernel
theorem dL_law_692 : decode cL_law 692 = .ok (.aload_n 0, 1) := by decide +kernel
theorem dL_law_693 : decode cL_law 693 = .ok (.iload_n 3, 1) := by decide +kernel
theorem dL_law_694 : decode cL_law 694 = .ok (.iconst 1, 1) := by decide +kernel
theorem dL_law_695 : decode cL_law 695 = .ok (.iadd, 1) := by decide +kernel
theorem dL_law_696 : decode cL_law 696 = .ok (.iaload, 1) := by decide +kernel
theorem dL_law_697 : decode cL_law 697 = .ok (.aload_n 0, 1) := by decide +kernel
theorem dL_law_698 : decode cL_law 698 = .ok (.iload_n 3, 1) := by decide +kernel
theorem dL_law_699 : decode cL_law 699 = .ok (.iconst 2, 1) := by decide +kernel
theorem dL_law_700 : decode cL_law 700 = .ok (.iadd, 1) := by decide +kernel
theorem dL_law_701 : decode cL_law 701 = .ok (.iaload, 1) := by decide +kernel
theorem dL_law_702 : decode cL_law 702 = .ok (.aload_n 0, 1) := by decide +kernel
theorem dL_law_703 : decode cL_law 703 = .ok (.iload_n 3, 1) := by decide +kernel
theorem dL_law_704 : decode cL_law 704 = .ok (.iconst 3, 1) := by decide +kernel
theorem dL_law_705 : decode cL_law 705 = .ok (.iadd, 1) := by decide +kernel
theorem dL_law_706 : decode cL_law 706 = .ok (.iaload, 1) := by decide +kernel
theorem dL_law_707 : decode cL_law 707 = .ok (.invokevirtual 68, 3) := by decide +kernel
theorem dL_law_710 : decode cL_law 710 = .ok (.if_icmp .eq 623, 3) := by decide +kernel
theorem dL_law_713 : decode cL_law 713 = .ok (.iconst 0, 1) := by decide +kernel
theorem dL_law_714 : decode cL_law 714 = .ok (.ireturn, 1) := by decide +kernel
theorem dL_law_715 : decode cL_law 715 = .ok (.aload_n 1, 1) := by decide +kernel
theorem dL_law_716 : decode cL_law 716 = .ok (.aload_n 0, 1) := by decide +kernel
theorem dL_law_717 : decode cL_law 717 = .ok (.iload_n 3, 1) := by decide +kernel
theorem dL_law_718 : decode cL_law 718 = .ok (.iconst 1, 1) := by decide +kernel
theorem dL_law_719 : decode cL_law 719 = .ok (.iadd, 1) := by decide +kernel
theorem dL_law_720 : decode cL_law 720 = .ok (.iaload, 1) := by decide +kernel
theorem dL_law_721 : decode cL_law 721 = .ok (.aload_n 0, 1) := by decide +kernel
theorem dL_law_722 : decode cL_law 722 = .ok (.iload_n 3, 1) := by decide +kernel
theorem dL_law_723 : decode cL_law 723 = .ok (.iconst 2, 1) := by decide +kernel
theorem dL_law_724 : decode cL_law 724 = .ok (.iadd, 1) := by decide +kernel
theorem dL_law_725 : decode cL_law 725 = .ok (.iaload, 1) := by decide +kernel
theorem dL_law_726 : decode cL_law 726 = .ok (.invokevirtual 69, 3) := by decide +kernel
theorem dL_law_729 : decode cL_law 729 = .ok (.aload_n 2, 1) := by decide +kernel
theorem dL_law_730 : decode cL_law 730 = .ok (.aload_n 0, 1) := by decide +kernel
theorem dL_law_731 : decode cL_law 731 = .ok (.iload_n 3, 1) := by decide +kernel
theorem dL_law_732 : decode cL_law 732 = .ok (.iconst 1, 1) := by decide +kernel
theorem dL_law_733 : decode cL_law 733 = .ok (.iadd, 1) := by decide +kernel
theorem dL_law_734 : decode cL_law 734 = .ok (.iaload, 1) := by decide +kernel
theorem dL_law_735 : decode cL_law 735 = .ok (.aload_n 0, 1) := by decide +kernel
theorem dL_law_736 : decode cL_law 736 = .ok (.iload_n 3, 1) := by decide +kernel
theorem dL_law_737 : decode cL_law 737 = .ok (.iconst 2, 1) := by decide +kernel
theorem dL_law_738 : decode cL_law 738 = .ok (.iadd, 1) := by decide +kernel
theorem dL_law_739 : decode cL_law 739 = .ok (.iaload, 1) := by decide +kernel
theorem dL_law_740 : decode cL_law 740 = .ok (.invokevirtual 72, 3) := by decide +kernel
theorem dL_law_743 : decode cL_law 743 = .ok (.if_icmp .eq 590, 3) := by decide +kernel
theorem dL_law_746 : decode cL_law 746 = .ok (.iconst 0, 1) := by decide +kernel
theorem dL_law_747 : decode cL_law 747 = .ok (.ireturn, 1) := by decide +kernel
theorem dL_law_748 : decode cL_law 748 = .ok (.aload_n 1, 1) := by decide +kernel
theorem dL_law_749 : decode cL_law 749 = .ok (.aload_n 0, 1) := by decide +kernel
theorem dL_law_750 : decode cL_law 750 = .ok (.iload_n 3, 1) := by decide +kernel
theorem dL_law_751 : decode cL_law 751 = .ok (.iconst 1, 1) := by decide +kernel
theorem dL_law_752 : decode cL_law 752 = .ok (.iadd, 1) := by decide +kernel
theorem dL_law_753 : decode cL_law 753 = .ok (.iaload, 1) := by decide +kernel
theorem dL_law_754 : decode cL_law 754 = .ok (.invokevirtual 73, 3) := by decide +kernel
theorem dL_law_757 : decode cL_law 757 = .ok (.aload_n 2, 1) := by decide +kernel
theorem dL_law_758 : decode cL_law 758 = .ok (.aload_n 0, 1) := by decide +kernel
theorem dL_law_759 : decode cL_law 759 = .ok (.iload_n 3, 1) := by decide +kernel
theorem dL_law_760 : decode cL_law 760 = .ok (.iconst 1, 1) := by decide +kernel
theorem dL_law_761 : decode cL_law 761 = .ok (.iadd, 1) := by decide +kernel
theorem dL_law_762 : decode cL_law 762 = .ok (.iaload, 1) := by decide +kernel
theorem dL_law_763 : decode cL_law 763 = .ok (.invokevirtual 77, 3) := by decide +kernel
theorem dL_law_766 : decode cL_law 766 = .ok (.if_icmp .eq 567, 3) := by decide +kernel
theorem dL_law_769 : decode cL_law 769 = .ok (.iconst 0, 1) := by decide +kernel
theorem dL_law_770 : decode cL_law 770 = .ok (.ireturn, 1) := by decide +kernel
theorem dL_law_771 : decode cL_law 771 = .ok (.aload_n 1, 1) := by decide +kernel
theorem dL_law_772 : decode cL_law 772 = .ok (.aload_n 0, 1) := by decide +kernel
theorem dL_law_773 : decode cL_law 773 = .ok (.iload_n 3, 1) := by decide +kernel
theorem dL_law_774 : decode cL_law 774 = .ok (.iconst 1, 1) := by decide +kernel
theorem dL_law_775 : decode cL_law 775 = .ok (.iadd, 1) := by decide +kernel
theorem dL_law_776 : decode cL_law 776 = .ok (.iaload, 1) := by decide +kernel
theorem dL_law_777 : decode cL_law 777 = .ok (.aload_n 0, 1) := by decide +kernel
theorem dL_law_778 : decode cL_law 778 = .ok (.iload_n 3, 1) := by decide +kernel
theorem dL_law_779 : decode cL_law 779 = .ok (.iconst 2, 1) := by decide +kernel
theorem dL_law_780 : decode cL_law 780 = .ok (.iadd, 1) := by decide +kernel
theorem dL_law_781 : decode cL_law 781 = .ok (.iaload, 1) := by decide +kernel
theorem dL_law_782 : decode cL_law 782 = .ok (.aload_n 0, 1) := by decide +kernel
theorem dL_law_783 : decode cL_law 783 = .ok (.iload_n 3, 1) := by decide +kernel
theorem dL_law_784 : decode cL_law 784 = .ok (.iconst 3, 1) := by decide +kernel
theorem dL_law_785 : decode cL_law 785 = .ok (.iadd, 1) := by decide +kernel
theorem dL_law_786 : decode cL_law 786 = .ok (.iaload, 1) := by decide +kernel
theorem dL_law_787 : decode cL_law 787 = .ok (.invokevirtual 78, 3) := by decide +kernel
theorem dL_law_790 : decode cL_law 790 = .ok (.aload_n 2, 1) := by decide +kernel
theorem dL_law_791 : decode cL_law 791 = .ok (.aload_n 0, 1) := by decide +kernel
theorem dL_law_792 : decode cL_law 792 = .ok (.iload_n 3, 1) := by decide +kernel
theorem dL_law_793 : decode cL_law 793 = .ok (.iconst 1, 1) := by decide +kernel
theorem dL_law_794 : decode cL_law 794 = .ok (.iadd, 1) := by decide +kernel
theorem dL_law_795 : decode cL_law 795 = .ok (.iaload, 1) := by decide +kernel
theorem dL_law_796 : decode cL_law 796 = .ok (.aload_n 0, 1) := by decide +kernel
theorem dL_law_797 : decode cL_law 797 = .ok (.iload_n 3, 1) := by decide +kernel
theorem dL_law_798 : decode cL_law 798 = .ok (.iconst 2, 1) := by decide +kernel
theorem dL_law_799 : decode cL_law 799 = .ok (.iadd, 1) := by decide +kernel
theorem dL_law_800 : decode cL_law 800 = .ok (.iaload, 1) := by decide +kernel
theorem dL_law_801 : decode cL_law 801 = .ok (.aload_n 0, 1) := by decide +kernel
theorem dL_law_802 : decode cL_law 802 = .ok (.iload_n 3, 1) := by decide +kernel
theorem dL_law_803 : decode cL_law 803 = .ok (.iconst 3, 1) := by decide +kernel
theorem dL_law_804 : decode cL_law 804 = .ok (.iadd, 1) := by decide +kernel
theorem dL_law_805 : decode cL_law 805 = .ok (.iaload, 1) := by decide +kernel
theorem dL_law_806 : decode cL_law 806 = .ok (.invokevirtual 81, 3) := by decide +kernel
theorem dL_law_809 : decode cL_law 809 = .ok (.if_icmp .eq 524, 3) := by decide +kernel
theorem dL_law_812 : decode cL_law 812 = .ok (.iconst 0, 1) := by decide +kernel
theorem dL_law_813 : decode cL_law 813 = .ok (.ireturn, 1) := by decide +kernel
theorem dL_law_814 : decode cL_law 814 = .ok (.aload_n 1, 1) := by decide +kernel
theorem dL_law_815 : decode cL_law 815 = .ok (.aload_n 0, 1) := by decide +kernel
theorem dL_law_816 : decode cL_law 816 = .ok (.iload_n 3, 1) := by decide +kernel
theorem dL_law_817 : decode cL_law 817 = .ok (.iconst 1, 1) := by decide +kernel
theorem dL_law_818 : decode cL_law 818 = .ok (.iadd, 1) := by decide +kernel
theorem dL_law_819 : decode cL_law 819 = .ok (.iaload, 1) := by decide +kernel
theorem dL_law_820 : decode cL_law 820 = .ok (.aload_n 0, 1) := by decide +kernel
theorem dL_law_821 : decode cL_law 821 = .ok (.iload_n 3, 1) := by decide +kernel
theorem dL_law_822 : decode cL_law 822 = .ok (.iconst 2, 1) := by decide +kernel
theorem dL_law_823 : decode cL_law 823 = .ok (.iadd, 1) := by decide +kernel
theorem dL_law_824 : decode cL_law 824 = .ok (.iaload, 1) := by decide +kernel
theorem dL_law_825 : decode cL_law 825 = .ok (.aload_n 0, 1) := by decide +kernel
theorem dL_law_826 : decode cL_law 826 = .ok (.iload_n 3, 1) := by decide +kernel
theorem dL_law_827 : decode cL_law 827 = .ok (.iconst 3, 1) := by decide +kernel
theorem dL_law_828 : decode cL_law 828 = .ok (.iadd, 1) := by decide +kernel
theorem dL_law_829 : decode cL_law 829 = .ok (.iaload, 1) := by decide +kernel
theorem dL_law_830 : decode cL_law 830 = .ok (.invokevirtual 82, 3) := by decide +kernel
theorem dL_law_833 : decode cL_law 833 = .ok (.aload_n 2, 1) := by decide +kernel
theorem dL_law_834 : decode cL_law 834 = .ok (.aload_n 0, 1) := by decide +kernel
theorem dL_law_835 : decode cL_law 835 = .ok (.iload_n 3, 1) := by decide +kernel
theorem dL_law_836 : decode cL_law 836 = .ok (.iconst 1, 1) := by decide +kernel
theorem dL_law_837 : decode cL_law 837 = .ok (.iadd, 1) := by decide +kernel
theorem dL_law_838 : decode cL_law 838 = .ok (.iaload, 1) := by decide +kernel
theorem dL_law_839 : decode cL_law 839 = .ok (.aload_n 0, 1) := by decide +kernel
theorem dL_law_840 : decode cL_law 840 = .ok (.iload_n 3, 1) := by decide +kernel
theorem dL_law_841 : decode cL_law 841 = .ok (.iconst 2, 1) := by decide +kernel
theorem dL_law_842 : decode cL_law 842 = .ok (.iadd, 1) := by decide +kernel
theorem dL_law_843 : decode cL_law 843 = .ok (.iaload, 1) := by decide +kernel
theorem dL_law_844 : decode cL_law 844 = .ok (.aload_n 0, 1) := by decide +kernel
theorem dL_law_845 : decode cL_law 845 = .ok (.iload_n 3, 1) := by decide +kernel
theorem dL_law_846 : decode cL_law 846 = .ok (.iconst 3, 1) := by decide +kernel
theorem dL_law_847 : decode cL_law 847 = .ok (.iadd, 1) := by decide +kernel
theorem dL_law_848 : decode cL_law 848 = .ok (.iaload, 1) := by decide +kernel
theorem dL_law_849 : decode cL_law 849 = .ok (.invokevirtual 85, 3) := by decide +kernel
theorem dL_law_852 : decode cL_law 852 = .ok (.if_icmp .eq 481, 3) := by decide +kernel
theorem dL_law_855 : decode cL_law 855 = .ok (.iconst 0, 1) := by decide +kernel
theorem dL_law_856 : decode cL_law 856 = .ok (.ireturn, 1) := by decide +kernel
theorem dL_law_857 : decode cL_law 857 = .ok (.aload_n 1, 1) := by decide +kernel
theorem dL_law_858 : decode cL_law 858 = .ok (.aload_n 0, 1) := by decide +kernel
theorem dL_law_859 : decode cL_law 859 = .ok (.iload_n 3, 1) := by decide +kernel
theorem dL_law_860 : decode cL_law 860 = .ok (.iconst 1, 1) := by decide +kernel
theorem dL_law_861 : decode cL_law 861 = .ok (.iadd, 1) := by decide +kernel
theorem dL_law_862 : decode cL_law 862 = .ok (.iaload, 1) := by decide +kernel
theorem dL_law_863 : decode cL_law 863 = .ok (.aload_n 0, 1) := by decide +kernel
theorem dL_law_864 : decode cL_law 864 = .ok (.iload_n 3, 1) := by decide +kernel
theorem dL_law_865 : decode cL_law 865 = .ok (.iconst 2, 1) := by decide +kernel
theorem dL_law_866 : decode cL_law 866 = .ok (.iadd, 1) := by decide +kernel
theorem dL_law_867 : decode cL_law 867 = .ok (.iaload, 1) := by decide +kernel
theorem dL_law_868 : decode cL_law 868 = .ok (.aload_n 0, 1) := by decide +kernel
theorem dL_law_869 : decode cL_law 869 = .ok (.iload_n 3, 1) := by decide +kernel
theorem dL_law_870 : decode cL_law 870 = .ok (.iconst 3, 1) := by decide +kernel
theorem dL_law_871 : decode cL_law 871 = .ok (.iadd, 1) := by decide +kernel
theorem dL_law_872 : decode cL_law 872 = .ok (.iaload, 1) := by decide +kernel
theorem dL_law_873 : decode cL_law 873 = .ok (.invokevirtual 86, 3) := by decide +kernel
theorem dL_law_876 : decode cL_law 876 = .ok (.aload_n 2, 1) := by decide +kernel
theorem dL_law_877 : decode cL_law 877 = .ok (.aload_n 0, 1) := by decide +kernel
theorem dL_law_878 : decode cL_law 878 = .ok (.iload_n 3, 1) := by decide +kernel
theorem dL_law_879 : decode cL_law 879 = .ok (.iconst 1, 1) := by decide +kernel
theorem dL_law_880 : decode cL_law 880 = .ok (.iadd, 1) := by decide +kernel
theorem dL_law_881 : decode cL_law 881 = .ok (.iaload, 1) := by decide +kernel
theorem dL_law_882 : decode cL_law 882 = .ok (.aload_n 0, 1) := by decide +kernel
theorem dL_law_883 : decode cL_law 883 = .ok (.iload_n 3, 1) := by decide +kernel
theorem dL_law_884 : decode cL_law 884 = .ok (.iconst 2, 1) := by decide +kernel
theorem dL_law_885 : decode cL_law 885 = .ok (.iadd, 1) := by decide +kernel
theorem dL_law_886 : decode cL_law 886 = .ok (.iaload, 1) := by decide +kernel
theorem dL_law_887 : decode cL_law 887 = .ok (.aload_n 0, 1) := by decide +kernel
theorem dL_law_888 : decode cL_law 888 = .ok (.iload_n 3, 1) := by decide +kernel
theorem dL_law_889 : decode cL_law 889 = .ok (.iconst 3, 1) := by decide +kernel
theorem dL_law_890 : decode cL_law 890 = .ok (.iadd, 1) := by decide +kernel
theorem dL_law_891 : decode cL_law 891 = .ok (.iaload, 1) := by decide +kernel
theorem dL_law_892 : decode cL_law 892 = .ok (.invokevirtual 89, 3) := by decide +kernel
theorem dL_law_895 : decode cL_law 895 = .ok (.if_icmp .eq 438, 3) := by decide +kernel
theorem dL_law_898 : decode cL_law 898 = .ok (.iconst 0, 1) := by decide +kernel
theorem dL_law_899 : decode cL_law 899 = .ok (.ireturn, 1) := by decide +kernel
theorem dL_law_900 : decode cL_law 900 = .ok (.aload_n 1, 1) := by decide +kernel
theorem dL_law_901 : decode cL_law 901 = .ok (.aload_n 0, 1) := by decide +kernel
theorem dL_law_902 : decode cL_law 902 = .ok (.iload_n 3, 1) := by decide +kernel
theorem dL_law_903 : decode cL_law 903 = .ok (.iconst 1, 1) := by decide +kernel
theorem dL_law_904 : decode cL_law 904 = .ok (.iadd, 1) := by decide +kernel
theorem dL_law_905 : decode cL_law 905 = .ok (.iaload, 1) := by decide +kernel
theorem dL_law_906 : decode cL_law 906 = .ok (.aload_n 0, 1) := by decide +kernel
theorem dL_law_907 : decode cL_law 907 = .ok (.iload_n 3, 1) := by decide +kernel
theorem dL_law_908 : decode cL_law 908 = .ok (.iconst 2, 1) := by decide +kernel
theorem dL_law_909 : decode cL_law 909 = .ok (.iadd, 1) := by decide +kernel
theorem dL_law_910 : decode cL_law 910 = .ok (.iaload, 1) := by decide +kernel
theorem dL_law_911 : decode cL_law 911 = .ok (.aload_n 0, 1) := by decide +kernel
theorem dL_law_912 : decode cL_law 912 = .ok (.iload_n 3, 1) := by decide +kernel
theorem dL_law_913 : decode cL_law 913 = .ok (.iconst 3, 1) := by decide +kernel
theorem dL_law_914 : decode cL_law 914 = .ok (.iadd, 1) := by decide +kernel
theorem dL_law_915 : decode cL_law 915 = .ok (.iaload, 1) := by decide +kernel
theorem dL_law_916 : decode cL_law 916 = .ok (.invokevirtual 90, 3) := by decide +kernel
theorem dL_law_919 : decode cL_law 919 = .ok (.aload_n 2, 1) := by decide +kernel
theorem dL_law_920 : decode cL_law 920 = .ok (.aload_n 0, 1) := by decide +kernel
theorem dL_law_921 : decode cL_law 921 = .ok (.iload_n 3, 1) := by decide +kernel
theorem dL_law_922 : decode cL_law 922 = .ok (.iconst 1, 1) := by decide +kernel
theorem dL_law_923 : decode cL_law 923 = .ok (.iadd, 1) := by decide +kernel
theorem dL_law_924 : decode cL_law 924 = .ok (.iaload, 1) := by decide +kernel
theorem dL_law_925 : decode cL_law 925 = .ok (.aload_n 0, 1) := by decide +kernel
theorem dL_law_926 : decode cL_law 926 = .ok (.iload_n 3, 1) := by decide +kernel
theorem dL_law_927 : decode cL_law 927 = .ok (.iconst 2, 1) := by decide +kernel
theorem dL_law_928 : decode cL_law 928 = .ok (.iadd, 1) := by decide +kernel
theorem dL_law_929 : decode cL_law 929 = .ok (.iaload, 1) := by decide +kernel
theorem dL_law_930 : decode cL_law 930 = .ok (.aload_n 0, 1) := by decide +kernel
theorem dL_law_931 : decode cL_law 931 = .ok (.iload_n 3, 1) := by decide +kernel
theorem dL_law_932 : decode cL_law 932 = .ok (.iconst 3, 1) := by decide +kernel
theorem dL_law_933 : decode cL_law 933 = .ok (.iadd, 1) := by decide +kernel
theorem dL_law_934 : decode cL_law 934 = .ok (.iaload, 1) := by decide +kernel
theorem dL_law_935 : decode cL_law 935 = .ok (.invokevirtual 93, 3) := by decide +kernel
theorem dL_law_938 : decode cL_law 938 = .ok (.if_icmp .eq 395, 3) := by decide +kernel
theorem dL_law_941 : decode cL_law 941 = .ok (.iconst 0, 1) := by decide +kernel
theorem dL_law_942 : decode cL_law 942 = .ok (.ireturn, 1) := by decide +kernel
theorem dL_law_943 : decode cL_law 943 = .ok (.aload_n 1, 1) := by decide +kernel
theorem dL_law_944 : decode cL_law 944 = .ok (.aload_n 0, 1) := by decide +kernel
theorem dL_law_945 : decode cL_law 945 = .ok (.iload_n 3, 1) := by decide +kernel
theorem dL_law_946 : decode cL_law 946 = .ok (.iconst 1, 1) := by decide +kernel
theorem dL_law_947 : decode cL_law 947 = .ok (.iadd, 1) := by decide +kernel
theorem dL_law_948 : decode cL_law 948 = .ok (.iaload, 1) := by decide +kernel
theorem dL_law_949 : decode cL_law 949 = .ok (.invokevirtual 94, 3) := by decide +kernel
theorem dL_law_952 : decode cL_law 952 = .ok (.aload_n 2, 1) := by decide +kernel
theorem dL_law_953 : decode cL_law 953 = .ok (.aload_n 0, 1) := by decide +kernel
theorem dL_law_954 : decode cL_law 954 = .ok (.iload_n 3, 1) := by decide +kernel
theorem dL_law_955 : decode cL_law 955 = .ok (.iconst 1, 1) := by decide +kernel
theorem dL_law_956 : decode cL_law 956 = .ok (.iadd, 1) := by decide +kernel
theorem dL_law_957 : decode cL_law 957 = .ok (.iaload, 1) := by decide +kernel
theorem dL_law_958 : decode cL_law 958 = .ok (.invokevirtual 97, 3) := by decide +kernel
theorem dL_law_961 : decode cL_law 961 = .ok (.if_icmp .eq 372, 3) := by decide +kernel
theorem dL_law_964 : decode cL_law 964 = .ok (.iconst 0, 1) := by decide +kernel
theorem dL_law_965 : decode cL_law 965 = .ok (.ireturn, 1) := by decide +kernel
theorem dL_law_966 : decode cL_law 966 = .ok (.aload_n 1, 1) := by decide +kernel
theorem dL_law_967 : decode cL_law 967 = .ok (.aload_n 0, 1) := by decide +kernel
theorem dL_law_968 : decode cL_law 968 = .ok (.iload_n 3, 1) := by decide +kernel
theorem dL_law_969 : decode cL_law 969 = .ok (.iconst 1, 1) := by decide +kernel
theorem dL_law_970 : decode cL_law 970 = .ok (.iadd, 1) := by decide +kernel
theorem dL_law_971 : decode cL_law 971 = .ok (.iaload, 1) := by decide +kernel
theorem dL_law_972 : decode cL_law 972 = .ok (.invokevirtual 98, 3) := by decide +kernel
theorem dL_law_975 : decode cL_law 975 = .ok (.aload_n 2, 1) := by decide +kernel
theorem dL_law_976 : decode cL_law 976 = .ok (.aload_n 0, 1) := by decide +kernel
theorem dL_law_977 : decode cL_law 977 = .ok (.iload_n 3, 1) := by decide +kernel
theorem dL_law_978 : decode cL_law 978 = .ok (.iconst 1, 1) := by decide +kernel
theorem dL_law_979 : decode cL_law 979 = .ok (.iadd, 1) := by decide +kernel
theorem dL_law_980 : decode cL_law 980 = .ok (.iaload, 1) := by decide +kernel
theorem dL_law_981 : decode cL_law 981 = .ok (.invokevirtual 101, 3) := by decide +kernel
theorem dL_law_984 : decode cL_law 984 = .ok (.if_icmp .eq 349, 3) := by decide +kernel
theorem dL_law_987 : decode cL_law 987 = .ok (.iconst 0, 1) := by decide +kernel
theorem dL_law_988 : decode cL_law 988 = .ok (.ireturn, 1) := by decide +kernel
theorem dL_law_989 : decode cL_law 989 = .ok (.aload_n 1, 1) := by decide +kernel
theorem dL_law_990 : decode cL_law 990 = .ok (.aload_n 0, 1) := by decide +kernel
theorem dL_law_991 : decode cL_law 991 = .ok (.iload_n 3, 1) := by decide +kernel
theorem dL_law_992 : decode cL_law 992 = .ok (.iconst 1, 1) := by decide +kernel
theorem dL_law_993 : decode cL_law 993 = .ok (.iadd, 1) := by decide +kernel
theorem dL_law_994 : decode cL_law 994 = .ok (.iaload, 1) := by decide +kernel
theorem dL_law_995 : decode cL_law 995 = .ok (.aload_n 0, 1) := by decide +kernel
theorem dL_law_996 : decode cL_law 996 = .ok (.iload_n 3, 1) := by decide +kernel
theorem dL_law_997 : decode cL_law 997 = .ok (.iconst 2, 1) := by decide +kernel
theorem dL_law_998 : decode cL_law 998 = .ok (.iadd, 1) := by decide +kernel
theorem dL_law_999 : decode cL_law 999 = .ok (.iaload, 1) := by decide +kernel
theorem dL_law_1000 : decode cL_law 1000 = .ok (.aload_n 0, 1) := by decide +kernel
theorem dL_law_1001 : decode cL_law 1001 = .ok (.iload_n 3, 1) := by decide +kernel
theorem dL_law_1002 : decode cL_law 1002 = .ok (.iconst 3, 1) := by decide +kernel
theorem dL_law_1003 : decode cL_law 1003 = .ok (.iadd, 1) := by decide +kernel
theorem dL_law_1004 : decode cL_law 1004 = .ok (.iaload, 1) := by decide +kernel
theorem dL_law_1005 : decode cL_law 1005 = .ok (.invokevirtual 102, 3) := by decide +kernel
theorem dL_law_1008 : decode cL_law 1008 = .ok (.aload_n 2, 1) := by decide +kernel
theorem dL_law_1009 : decode cL_law 1009 = .ok (.aload_n 0, 1) := by decide +kernel
theorem dL_law_1010 : decode cL_law 1010 = .ok (.iload_n 3, 1) := by decide +kernel
theorem dL_law_1011 : decode cL_law 1011 = .ok (.iconst 1, 1) := by decide +kernel
theorem dL_law_1012 : decode cL_law 1012 = .ok (.iadd, 1) := by decide +kernel
theorem dL_law_1013 : decode cL_law 1013 = .ok (.iaload, 1) := by decide +kernel
theorem dL_law_1014 : decode cL_law 1014 = .ok (.aload_n 0, 1) := by decide +kernel
theorem dL_law_1015 : decode cL_law 1015 = .ok (.iload_n 3, 1) := by decide +kernel
theorem dL_law_1016 : decode cL_law 1016 = .ok (.iconst 2, 1) := by decide +kernel
theorem dL_law_1017 : decode cL_law 1017 = .ok (.iadd, 1) := by decide +kernel
theorem dL_law_1018 : decode cL_law 1018 = .ok (.iaload, 1) := by decide +kernel
theorem dL_law_1019 : decode cL_law 1019 = .ok (.aload_n 0, 1) := by decide +kernel
theorem dL_law_1020 : decode cL_law 1020 = .ok (.iload_n 3, 1) := by decide +kernel
theorem dL_law_1021 : decode cL_law 1021 = .ok (.iconst 3, 1) := by decide +kernel
theorem dL_law_1022 : decode cL_law 1022 = .ok (.iadd, 1) := by decide +kernel
theorem dL_law_1023 : decode cL_law 1023 = .ok (.iaload, 1) := by decide +kernel
theorem dL_law_1024 : decode cL_law 1024 = .ok (.invokevirtual 105, 3) := by decide +kernel
theorem dL_law_1027 : decode cL_law 1027 = .ok (.if_icmp .eq 306, 3) := by decide +kernel
theorem dL_law_1030 : decode cL_law 1030 = .ok (.iconst 0, 1) := by decide +kernel
theorem dL_law_1031 : decode cL_law 1031 = .ok (.ireturn, 1) := by decide +kernel
theorem dL_law_1032 : decode cL_law 1032 = .ok (.aload_n 1, 1) := by decide +kernel
theorem dL_law_1033 : decode cL_law 1033 = .ok (.aload_n 0, 1) := by decide +kernel
theorem dL_law_1034 : decode cL_law 1034 = .ok (.iload_n 3, 1) := by decide +kernel
theorem dL_law_1035 : decode cL_law 1035 = .ok (.iconst 1, 1) := by decide +kernel
theorem dL_law_1036 : decode cL_law 1036 = .ok (.iadd, 1) := by decide +kernel
theorem dL_law_1037 : decode cL_law 1037 = .ok (.iaload, 1) := by decide +kernel
theorem dL_law_1038 : decode cL_law 1038 = .ok (.invokevirtual 106, 3) := by decide +kernel
theorem dL_law_1041 : decode cL_law 1041 = .ok (.aload_n 2, 1) := by decide +kernel
theorem dL_law_1042 : decode cL_law 1042 = .ok (.aload_n 0, 1) := by decide +kernel
theorem dL_law_1043 : decode cL_law 1043 = .ok (.iload_n 3, 1) := by decide +kernel
theorem dL_law_1044 : decode cL_law 1044 = .ok (.iconst 1, 1) := by decide +kernel
theorem dL_law_1045 : decode cL_law 1045 = .ok (.iadd, 1) := by decide +kernel
theorem dL_law_1046 : decode cL_law 1046 = .ok (.iaload, 1) := by decide +kernel
theorem dL_law_1047 : decode cL_law 1047 = .ok (.invokevirtual 109, 3) := by decide +kernel
theorem dL_law_1050 : decode cL_law 1050 = .ok (.if_icmp .eq 283, 3) := by decide +kernel
theorem dL_law_1053 : decode cL_law 1053 = .ok (.iconst 0, 1) := by decide +kernel
theorem dL_law_1054 : decode cL_law 1054 = .ok (.ireturn, 1) := by decide +kernel
theorem dL_law_1055 : decode cL_law 1055 = .ok (.aload_n 1, 1) := by decide +kernel
theorem dL_law_1056 : decode cL_law 1056 = .ok (.aload_n 0, 1) := by decide +kernel
theorem dL_law_1057 : decode cL_law 1057 = .ok (.iload_n 3, 1) := by decide +kernel
theorem dL_law_1058 : decode cL_law 1058 = .ok (.iconst 1, 1) := by decide +kernel
theorem dL_law_1059 : decode cL_law 1059 = .ok (.iadd, 1) := by decide +kernel
theorem dL_law_1060 : decode cL_law 1060 = .ok (.iaload, 1) := by decide +kernel
theorem dL_law_1061 : decode cL_law 1061 = .ok (.aload_n 0, 1) := by decide +kernel
theorem dL_law_1062 : decode cL_law 1062 = .ok (.iload_n 3, 1) := by decide +kernel
theorem dL_law_1063 : decode cL_law 1063 = .ok (.iconst 2, 1) := by decide +kernel
theorem dL_law_1064 : decode cL_law 1064 = .ok (.iadd, 1) := by decide +kernel
theorem dL_law_1065 : decode cL_law 1065 = .ok (.iaload, 1) := by decide +kernel
theorem dL_law_1066 : decode cL_law 1066 = .ok (.aload_n 0, 1) := by decide +kernel
theorem dL_law_1067 : decode cL_law 1067 = .ok (.iload_n 3, 1) := by decide +kernel
theorem dL_law_1068 : decode cL_law 1068 = .ok (.iconst 3, 1) := by decide +kernel
theorem dL_law_1069 : decode cL_law 1069 = .ok (.iadd, 1) := by decide +kernel
theorem dL_law_1070 : decode cL_law 1070 = .ok (.iaload, 1) := by decide +kernel
theorem dL_law_1071 : decode cL_law 1071 = .ok (.invokevirtual 110, 3) := by decide +kernel
theorem dL_law_1074 : decode cL_law 1074 = .ok (.aload_n 2, 1) := by decide +kernel
theorem dL_law_1075 : decode cL_law 1075 = .ok (.aload_n 0, 1) := by decide +kernel
theorem dL_law_1076 : decode cL_law 1076 = .ok (.iload_n 3, 1) := by decide +kernel
theorem dL_law_1077 : decode cL_law 1077 = .ok (.iconst 1, 1) := by decide +kernel
theorem dL_law_1078 : decode cL_law 1078 = .ok (.iadd, 1) := by decide +kernel
theorem dL_law_1079 : decode cL_law 1079 = .ok (.iaload, 1) := by decide +kernel
theorem dL_law_1080 : decode cL_law 1080 = .ok (.aload_n 0, 1) := by decide +kernel
theorem dL_law_1081 : decode cL_law 1081 = .ok (.iload_n 3, 1) := by decide +kernel
theorem dL_law_1082 : decode cL_law 1082 = .ok (.iconst 2, 1) := by decide +kernel
theorem dL_law_1083 : decode cL_law 1083 = .ok (.iadd, 1) := by decide +kernel
theorem dL_law_1084 : decode cL_law 1084 = .ok (.iaload, 1) := by decide +kernel
theorem dL_law_1085 : decode cL_law 1085 = .ok (.aload_n 0, 1) := by decide +kernel
theorem dL_law_1086 : decode cL_law 1086 = .ok (.iload_n 3, 1) := by decide +kernel
theorem dL_law_1087 : decode cL_law 1087 = .ok (.iconst 3, 1) := by decide +kernel
theorem dL_law_1088 : decode cL_law 1088 = .ok (.iadd, 1) := by decide +kernel
theorem dL_law_1089 : decode cL_law 1089 = .ok (.iaload, 1) := by decide +kernel
theorem dL_law_1090 : decode cL_law 1090 = .ok (.invokevirtual 113, 3) := by decide +kernel
theorem dL_law_1093 : decode cL_law 1093 = .ok (.if_icmp .eq 240, 3) := by decide +kernel
theorem dL_law_1096 : decode cL_law 1096 = .ok (.iconst 0, 1) := by decide +kernel
theorem dL_law_1097 : decode cL_law 1097 = .ok (.ireturn, 1) := by decide +kernel
theorem dL_law_1098 : decode cL_law 1098 = .ok (.aload_n 1, 1) := by decide +kernel
theorem dL_law_1099 : decode cL_law 1099 = .ok (.aload_n 0, 1) := by decide +kernel
theorem dL_law_1100 : decode cL_law 1100 = .ok (.iload_n 3, 1) := by decide +kernel
theorem dL_law_1101 : decode cL_law 1101 = .ok (.iconst 1, 1) := by decide +kernel
theorem dL_law_1102 : decode cL_law 1102 = .ok (.iadd, 1) := by decide +kernel
theorem dL_law_1103 : decode cL_law 1103 = .ok (.iaload, 1) := by decide +kernel
theorem dL_law_1104 : decode cL_law 1104 = .ok (.aload_n 0, 1) := by decide +kernel
theorem dL_law_1105 : decode cL_law 1105 = .ok (.iload_n 3, 1) := by decide +kernel
theorem dL_law_1106 : decode cL_law 1106 = .ok (.iconst 2, 1) := by decide +kernel
theorem dL_law_1107 : decode cL_law 1107 = .ok (.iadd, 1) := by decide +kernel
theorem dL_law_1108 : decode cL_law 1108 = .ok (.iaload, 1) := by decide +kernel
theorem dL_law_1109 : decode cL_law 1109 = .ok (.aload_n 0, 1) := by decide +kernel
theorem dL_law_1110 : decode cL_law 1110 = .ok (.iload_n 3, 1) := by decide +kernel
theorem dL_law_1111 : decode cL_law 1111 = .ok (.iconst 3, 1) := by decide +kernel
theorem dL_law_1112 : decode cL_law 1112 = .ok (.iadd, 1) := by decide +kernel
theorem dL_law_1113 : decode cL_law 1113 = .ok (.iaload, 1) := by decide +kernel
theorem dL_law_1114 : decode cL_law 1114 = .ok (.invokevirtual 114, 3) := by decide +kernel
theorem dL_law_1117 : decode cL_law 1117 = .ok (.aload_n 2, 1) := by decide +kernel
theorem dL_law_1118 : decode cL_law 1118 = .ok (.aload_n 0, 1) := by decide +kernel
theorem dL_law_1119 : decode cL_law 1119 = .ok (.iload_n 3, 1) := by decide +kernel
theorem dL_law_1120 : decode cL_law 1120 = .ok (.iconst 1, 1) := by decide +kernel
theorem dL_law_1121 : decode cL_law 1121 = .ok (.iadd, 1) := by decide +kernel
theorem dL_law_1122 : decode cL_law 1122 = .ok (.iaload, 1) := by decide +kernel
theorem dL_law_1123 : decode cL_law 1123 = .ok (.aload_n 0, 1) := by decide +kernel
theorem dL_law_1124 : decode cL_law 1124 = .ok (.iload_n 3, 1) := by decide +kernel
theorem dL_law_1125 : decode cL_law 1125 = .ok (.iconst 2, 1) := by decide +kernel
theorem dL_law_1126 : decode cL_law 1126 = .ok (.iadd, 1) := by decide +kernel
theorem dL_law_1127 : decode cL_law 1127 = .ok (.iaload, 1) := by decide +kernel
theorem dL_law_1128 : decode cL_law 1128 = .ok (.aload_n 0, 1) := by decide +kernel
theorem dL_law_1129 : decode cL_law 1129 = .ok (.iload_n 3, 1) := by decide +kernel
theorem dL_law_1130 : decode cL_law 1130 = .ok (.iconst 3, 1) := by decide +kernel
theorem dL_law_1131 : decode cL_law 1131 = .ok (.iadd, 1) := by decide +kernel
theorem dL_law_1132 : decode cL_law 1132 = .ok (.iaload, 1) := by decide +kernel
theorem dL_law_1133 : decode cL_law 1133 = .ok (.invokevirtual 118, 3) := by decide +kernel
theorem dL_law_1136 : decode cL_law 1136 = .ok (.lcmp, 1) := by decide +kernel
theorem dL_law_1137 : decode cL_law 1137 = .ok (.ifCond .eq 196, 3) := by decide +kernel
theorem dL_law_1140 : decode cL_law 1140 = .ok (.iconst 0, 1) := by decide +kernel
theorem dL_law_1141 : decode cL_law 1141 = .ok (.ireturn, 1) := by decide +kernel
theorem dL_law_1142 : decode cL_law 1142 = .ok (.aload_n 1, 1) := by decide +kernel
theorem dL_law_1143 : decode cL_law 1143 = .ok (.aload_n 0, 1) := by decide +kernel
theorem dL_law_1144 : decode cL_law 1144 = .ok (.iload_n 3, 1) := by decide +kernel
theorem dL_law_1145 : decode cL_law 1145 = .ok (.iconst 1, 1) := by decide +kernel
theorem dL_law_1146 : decode cL_law 1146 = .ok (.iadd, 1) := by decide +kernel
theorem dL_law_1147 : decode cL_law 1147 = .ok (.iaload, 1) := by decide +kernel
theorem dL_law_1148 : decode cL_law 1148 = .ok (.aload_n 0, 1) := by decide +kernel
theorem dL_law_1149 : decode cL_law 1149 = .ok (.iload_n 3, 1) := by decide +kernel
theorem dL_law_1150 : decode cL_law 1150 = .ok (.iconst 2, 1) := by decide +kernel
theorem dL_law_1151 : decode cL_law 1151 = .ok (.iadd, 1) := by decide +kernel
theorem dL_law_1152 : decode cL_law 1152 = .ok (.iaload, 1) := by decide +kernel
theorem dL_law_1153 : decode cL_law 1153 = .ok (.aload_n 0, 1) := by decide +kernel
theorem dL_law_1154 : decode cL_law 1154 = .ok (.iload_n 3, 1) := by decide +kernel
theorem dL_law_1155 : decode cL_law 1155 = .ok (.iconst 3, 1) := by decide +kernel
theorem dL_law_1156 : decode cL_law 1156 = .ok (.iadd, 1) := by decide +kernel
theorem dL_law_1157 : decode cL_law 1157 = .ok (.iaload, 1) := by decide +kernel
theorem dL_law_1158 : decode cL_law 1158 = .ok (.aload_n 0, 1) := by decide +kernel
theorem dL_law_1159 : decode cL_law 1159 = .ok (.iload_n 3, 1) := by decide +kernel
theorem dL_law_1160 : decode cL_law 1160 = .ok (.iconst 4, 1) := by decide +kernel
theorem dL_law_1161 : decode cL_law 1161 = .ok (.iadd, 1) := by decide +kernel
theorem dL_law_1162 : decode cL_law 1162 = .ok (.iaload, 1) := by decide +kernel
theorem dL_law_1163 : decode cL_law 1163 = .ok (.aload_n 0, 1) := by decide +kernel
theorem dL_law_1164 : decode cL_law 1164 = .ok (.iload_n 3, 1) := by decide +kernel
theorem dL_law_1165 : decode cL_law 1165 = .ok (.iconst 5, 1) := by decide +kernel
theorem dL_law_1166 : decode cL_law 1166 = .ok (.iadd, 1) := by decide +kernel
theorem dL_law_1167 : decode cL_law 1167 = .ok (.iaload, 1) := by decide +kernel
theorem dL_law_1168 : decode cL_law 1168 = .ok (.invokevirtual 119, 3) := by decide +kernel
theorem dL_law_1171 : decode cL_law 1171 = .ok (.aload_n 2, 1) := by decide +kernel
theorem dL_law_1172 : decode cL_law 1172 = .ok (.aload_n 0, 1) := by decide +kernel
theorem dL_law_1173 : decode cL_law 1173 = .ok (.iload_n 3, 1) := by decide +kernel
theorem dL_law_1174 : decode cL_law 1174 = .ok (.iconst 1, 1) := by decide +kernel
theorem dL_law_1175 : decode cL_law 1175 = .ok (.iadd, 1) := by decide +kernel
theorem dL_law_1176 : decode cL_law 1176 = .ok (.iaload, 1) := by decide +kernel
theorem dL_law_1177 : decode cL_law 1177 = .ok (.aload_n 0, 1) := by decide +kernel
theorem dL_law_1178 : decode cL_law 1178 = .ok (.iload_n 3, 1) := by decide +kernel
theorem dL_law_1179 : decode cL_law 1179 = .ok (.iconst 2, 1) := by decide +kernel
theorem dL_law_1180 : decode cL_law 1180 = .ok (.iadd, 1) := by decide +kernel
theorem dL_law_1181 : decode cL_law 1181 = .ok (.iaload, 1) := by decide +kernel
theorem dL_law_1182 : decode cL_law 1182 = .ok (.aload_n 0, 1) := by decide +kernel
theorem dL_law_1183 : decode cL_law 1183 = .ok (.iload_n 3, 1) := by decide +kernel
theorem dL_law_1184 : decode cL_law 1184 = .ok (.iconst 3, 1) := by decide +kernel
theorem dL_law_1185 : decode cL_law 1185 = .ok (.iadd, 1) := by decide +kernel
theorem dL_law_1186 : decode cL_law 1186 = .ok (.iaload, 1) := by decide +kernel
theorem dL_law_1187 : decode cL_law 1187 = .ok (.aload_n 0, 1) := by decide +kernel
theorem dL_law_1188 : decode cL_law 1188 = .ok (.iload_n 3, 1) := by decide +kernel
theorem dL_law_1189 : decode cL_law 1189 = .ok (.iconst 4, 1) := by decide +kernel
theorem dL_law_1190 : decode cL_law 1190 = .ok (.iadd, 1) := by decide +kernel
theorem dL_law_1191 : decode cL_law 1191 = .ok (.iaload, 1) := by decide +kernel
theorem dL_law_1192 : decode cL_law 1192 = .ok (.aload_n 0, 1) := by decide +kernel
theorem dL_law_1193 : decode cL_law 1193 = .ok (.iload_n 3, 1) := by decide +kernel
theorem dL_law_1194 : decode cL_law 1194 = .ok (.iconst 5, 1) := by decide +kernel
theorem dL_law_1195 : decode cL_law 1195 = .ok (.iadd, 1) := by decide +kernel
theorem dL_law_1196 : decode cL_law 1196 = .ok (.iaload, 1) := by decide +kernel
theorem dL_law_1197 : decode cL_law 1197 = .ok (.invokevirtual 122, 3) := by decide +kernel
theorem dL_law_1200 : decode cL_law 1200 = .ok (.if_icmp .eq 133, 3) := by decide +kernel
theorem dL_law_1203 : decode cL_law 1203 = .ok (.iconst 0, 1) := by decide +kernel
theorem dL_law_1204 : decode cL_law 1204 = .ok (.ireturn, 1) := by decide +kernel
theorem dL_law_1205 : decode cL_law 1205 = .ok (.aload_n 1, 1) := by decide +kernel
theorem dL_law_1206 : decode cL_law 1206 = .ok (.aload_n 0, 1) := by decide +kernel
theorem dL_law_1207 : decode cL_law 1207 = .ok (.iload_n 3, 1) := by decide +kernel
theorem dL_law_1208 : decode cL_law 1208 = .ok (.iconst 1, 1) := by decide +kernel
theorem dL_law_1209 : decode cL_law 1209 = .ok (.iadd, 1) := by decide +kernel
theorem dL_law_1210 : decode cL_law 1210 = .ok (.iaload, 1) := by decide +kernel
theorem dL_law_1211 : decode cL_law 1211 = .ok (.invokevirtual 123, 3) := by decide +kernel
theorem dL_law_1214 : decode cL_law 1214 = .ok (.aload_n 2, 1) := by decide +kernel
theorem dL_law_1215 : decode cL_law 1215 = .ok (.aload_n 0, 1) := by decide +kernel
theorem dL_law_1216 : decode cL_law 1216 = .ok (.iload_n 3, 1) := by decide +kernel
theorem dL_law_1217 : decode cL_law 1217 = .ok (.iconst 1, 1) := by decide +kernel
theorem dL_law_1218 : decode cL_law 1218 = .ok (.iadd, 1) := by decide +kernel
theorem dL_law_1219 : decode cL_law 1219 = .ok (.iaload, 1) := by decide +kernel
theorem dL_law_1220 : decode cL_law 1220 = .ok (.invokevirtual 126, 3) := by decide +kernel
theorem dL_law_1223 : decode cL_law 1223 = .ok (.if_icmp .eq 110, 3) := by decide +kernel
theorem dL_law_1226 : decode cL_law 1226 = .ok (.iconst 0, 1) := by decide +kernel
theorem dL_law_1227 : decode cL_law 1227 = .ok (.ireturn, 1) := by decide +kernel
theorem dL_law_1228 : decode cL_law 1228 = .ok (.aload_n 1, 1) := by decide +kernel
theorem dL_law_1229 : decode cL_law 1229 = .ok (.aload_n 0, 1) := by decide +kernel
theorem dL_law_1230 : decode cL_law 1230 = .ok (.iload_n 3, 1) := by decide +kernel
theorem dL_law_1231 : decode cL_law 1231 = .ok (.iconst 1, 1) := by decide +kernel
theorem dL_law_1232 : decode cL_law 1232 = .ok (.iadd, 1) := by decide +kernel
theorem dL_law_1233 : decode cL_law 1233 = .ok (.iaload, 1) := by decide +kernel
theorem dL_law_1234 : decode cL_law 1234 = .ok (.invokevirtual 127, 3) := by decide +kernel
theorem dL_law_1237 : decode cL_law 1237 = .ok (.aload_n 2, 1) := by decide +kernel
theorem dL_law_1238 : decode cL_law 1238 = .ok (.aload_n 0, 1) := by decide +kernel
theorem dL_law_1239 : decode cL_law 1239 = .ok (.iload_n 3, 1) := by decide +kernel
theorem dL_law_1240 : decode cL_law 1240 = .ok (.iconst 1, 1) := by decide +kernel
theorem dL_law_1241 : decode cL_law 1241 = .ok (.iadd, 1) := by decide +kernel
theorem dL_law_1242 : decode cL_law 1242 = .ok (.iaload, 1) := by decide +kernel
theorem dL_law_1243 : decode cL_law 1243 = .ok (.invokevirtual 130, 3) := by decide +kernel
theorem dL_law_1246 : decode cL_law 1246 = .ok (.if_icmp .eq 87, 3) := by decide +kernel
theorem dL_law_1249 : decode cL_law 1249 = .ok (.iconst 0, 1) := by decide +kernel
theorem dL_law_1250 : decode cL_law 1250 = .ok (.ireturn, 1) := by decide +kernel
theorem dL_law_1251 : decode cL_law 1251 = .ok (.aload_n 1, 1) := by decide +kernel
theorem dL_law_1252 : decode cL_law 1252 = .ok (.aload_n 0, 1) := by decide +kernel
theorem dL_law_1253 : decode cL_law 1253 = .ok (.iload_n 3, 1) := by decide +kernel
theorem dL_law_1254 : decode cL_law 1254 = .ok (.iconst 1, 1) := by decide +kernel
theorem dL_law_1255 : decode cL_law 1255 = .ok (.iadd, 1) := by decide +kernel
theorem dL_law_1256 : decode cL_law 1256 = .ok (.iaload, 1) := by decide +kernel
theorem dL_law_1257 : decode cL_law 1257 = .ok (.aload_n 0, 1) := by decide +kernel
theorem dL_law_1258 : decode cL_law 1258 = .ok (.iload_n 3, 1) := by decide +kernel
theorem dL_law_1259 : decode cL_law 1259 = .ok (.iconst 2, 1) := by decide +kernel
theorem dL_law_1260 : decode cL_law 1260 = .ok (.iadd, 1) := by decide +kernel
theorem dL_law_1261 : decode cL_law 1261 = .ok (.iaload, 1) := by decide +kernel
theorem dL_law_1262 : decode cL_law 1262 = .ok (.invokevirtual 131, 3) := by decide +kernel
theorem dL_law_1265 : decode cL_law 1265 = .ok (.aload_n 2, 1) := by decide +kernel
theorem dL_law_1266 : decode cL_law 1266 = .ok (.aload_n 0, 1) := by decide +kernel
theorem dL_law_1267 : decode cL_law 1267 = .ok (.iload_n 3, 1) := by decide +kernel
theorem dL_law_1268 : decode cL_law 1268 = .ok (.iconst 1, 1) := by decide +kernel
theorem dL_law_1269 : decode cL_law 1269 = .ok (.iadd, 1) := by decide +kernel
theorem dL_law_1270 : decode cL_law 1270 = .ok (.iaload, 1) := by decide +kernel
theorem dL_law_1271 : decode cL_law 1271 = .ok (.aload_n 0, 1) := by decide +kernel
theorem dL_law_1272 : decode cL_law 1272 = .ok (.iload_n 3, 1) := by decide +kernel
theorem dL_law_1273 : decode cL_law 1273 = .ok (.iconst 2, 1) := by decide +kernel
theorem dL_law_1274 : decode cL_law 1274 = .ok (.iadd, 1) := by decide +kernel
theorem dL_law_1275 : decode cL_law 1275 = .ok (.iaload, 1) := by decide +kernel
theorem dL_law_1276 : decode cL_law 1276 = .ok (.invokevirtual 134, 3) := by decide +kernel
theorem dL_law_1279 : decode cL_law 1279 = .ok (.if_icmp .eq 54, 3) := by decide +kernel
theorem dL_law_1282 : decode cL_law 1282 = .ok (.iconst 0, 1) := by decide +kernel
theorem dL_law_1283 : decode cL_law 1283 = .ok (.ireturn, 1) := by decide +kernel
theorem dL_law_1284 : decode cL_law 1284 = .ok (.aload_n 1, 1) := by decide +kernel
theorem dL_law_1285 : decode cL_law 1285 = .ok (.invokevirtual 135, 3) := by decide +kernel
theorem dL_law_1288 : decode cL_law 1288 = .ok (.aload_n 2, 1) := by decide +kernel
theorem dL_law_1289 : decode cL_law 1289 = .ok (.invokevirtual 139, 3) := by decide +kernel
theorem dL_law_1292 : decode cL_law 1292 = .ok (.if_icmp .eq 41, 3) := by decide +kernel
theorem dL_law_1295 : decode cL_law 1295 = .ok (.iconst 0, 1) := by decide +kernel
theorem dL_law_1296 : decode cL_law 1296 = .ok (.ireturn, 1) := by decide +kernel
theorem dL_law_1297 : decode cL_law 1297 = .ok (.aload_n 1, 1) := by decide +kernel
theorem dL_law_1298 : decode cL_law 1298 = .ok (.invokevirtual 140, 3) := by decide +kernel
theorem dL_law_1301 : decode cL_law 1301 = .ok (.aload_n 2, 1) := by decide +kernel
theorem dL_law_1302 : decode cL_law 1302 = .ok (.invokevirtual 143, 3) := by decide +kernel
theorem dL_law_1305 : decode cL_law 1305 = .ok (.if_icmp .eq 28, 3) := by decide +kernel
theorem dL_law_1308 : decode cL_law 1308 = .ok (.iconst 0, 1) := by decide +kernel
theorem dL_law_1309 : decode cL_law 1309 = .ok (.ireturn, 1) := by decide +kernel
theorem dL_law_1310 : decode cL_law 1310 = .ok (.aload_n 1, 1) := by decide +kernel
theorem dL_law_1311 : decode cL_law 1311 = .ok (.aload_n 0, 1) := by decide +kernel
theorem dL_law_1312 : decode cL_law 1312 = .ok (.iload_n 3, 1) := by decide +kernel
theorem dL_law_1313 : decode cL_law 1313 = .ok (.iconst 1, 1) := by decide +kernel
theorem dL_law_1314 : decode cL_law 1314 = .ok (.iadd, 1) := by decide +kernel
theorem dL_law_1315 : decode cL_law 1315 = .ok (.iaload, 1) := by decide +kernel
theorem dL_law_1316 : decode cL_law 1316 = .ok (.invokevirtual 144, 3) := by decide +kernel
theorem dL_law_1319 : decode cL_law 1319 = .ok (.aload_n 2, 1) := by decide +kernel
theorem dL_law_1320 : decode cL_law 1320 = .ok (.aload_n 0, 1) := by decide +kernel
theorem dL_law_1321 : decode cL_law 1321 = .ok (.iload_n 3, 1) := by decide +kernel
theorem dL_law_1322 : decode cL_law 1322 = .ok (.iconst 1, 1) := by decide +kernel
theorem dL_law_1323 : decode cL_law 1323 = .ok (.iadd, 1) := by decide +kernel
theorem dL_law_1324 : decode cL_law 1324 = .ok (.iaload, 1) := by decide +kernel
theorem dL_law_1325 : decode cL_law 1325 = .ok (.invokevirtual 147, 3) := by decide +kernel
theorem dL_law_1328 : decode cL_law 1328 = .ok (.if_icmp .eq 5, 3) := by decide +kernel
theorem dL_law_1331 : decode cL_law 1331 = .ok (.iconst 0, 1) := by decide +kernel
theorem dL_law_1332 : decode cL_law 1332 = .ok (.ireturn, 1) := by decide +kernel
theorem dL_law_1333 : decode cL_law 1333 = .ok (.iinc 3 6, 3) := by decide +kernel
theorem dL_law_1336 : decode cL_law 1336 = .ok (.goto (-1318), 3) := by decide +kernel
theorem dL_law_1339 : decode cL_law 1339 = .ok (.iconst 1, 1) := by decide +kernel
theorem dL_law_1340 : decode cL_law 1340 = .ok (.ireturn, 1) := by decide +kernel
end
section
abbrev Mem : Type := Nat → Nat → Int32
/-- one row changed -/
def upA (M : Mem) (k : Nat) (f : Nat → Int32) : Mem := fun c => if c = k then f else M c
/-- one number changed -/
def up (M : Mem) (k j : Nat) (v : Int32) : Mem := upA M k (upd (M k) j v)
abbrev mx (x y : Int32) : Int32 := if x < y then y else x
abbrev mn (x y : Int32) : Int32 := if y < x then y else x
abbrev ab (x : Int32) : Int32 := if 0 ≤ x then x else 0 - x
def Inj (a : Nat → Nat) (n : Nat) : Prop := ∀ i j, i < n → j < n → a i = a j → i = j
def inA (a : Nat → Nat) (n : Nat) : Nat → Prop := fun q => ∃ k, k < n ∧ q = a k
def nof : Addr → Prop := fun _ => False
theorem ifp {c : Prop} {h : Decidable c} {α : Type} {A B R : α} (hc : c) (e : (@ite α c h A B) = R) : A = R := by rw [if_pos hc] at e; exact e
theorem ifn {c : Prop} {h : Decidable c} {α : Type} {A B R : α} (hc : ¬ c) (e : (@ite α c h A B) = R) : B = R := by rw [if_neg hc] at e; exact e
theorem ifs {c : Prop} {h : Decidable c} {α : Type} {A : Option α} {R : α} (e : (@ite (Option α) c h A none) = some R) : c ∧ A = some R := by
  by_cases hc : c
  · rw [if_pos hc] at e; exact ⟨hc, e⟩
  · rw [if_neg hc] at e; cases e
theorem bns {α β : Type} {x : Option α} {k : α → Option β} {R : β} (e : x.bind k = some R) : ∃ r, x = some r ∧ k r = some R := by
  cases x with
  | none => cases e
  | some r => exact ⟨r, rfl, e⟩
abbrev clL : List vw_C := [(RX0, TX0, 0), (RX1, TX1, 0), (RX2, TX2, 2), (RX3, TX3, 10), (RX4, TX4, 6), (RX5, TX5, 5), (RX6, TX6, 3), (RX7, TX7, 0), (RX8, TX8, 1), (RX9, TX9, 3), (RX10, TX10, 6), (RX11, TX11, 9), (RX12, TX12, 25)]
abbrev tyL (g : Nat → ClassId) : List (ClassId × FieldType) := [(g 0, .int), (g 1, .boolean), (g 2, .object "BreathSquare$Sheet"), (g 3, .object "BreathSquare$Stone")]
def nwF : List (String × Nat × String × String × String) := [(RX11, 281, "BreathSquare$Trace", "left", "I"), (RX11, 109, "BreathSquare$Paving", "kindOf", "[I"), (RX11, 113, "BreathSquare$Paving", "ground", "[I"), (RX11, 116, "BreathSquare$Paving", "lifted", "[I"), (RX4, 67, "BreathSquare$Paving", "rowOf", "[I"), (RX4, 73, "BreathSquare$Paving", "columnOf", "[I"), (RX11, 130, "BreathSquare$Paving", "wet", "[I"), (RX11, 133, "BreathSquare$Paving", "frost", "[I"), (RX4, 28, "BreathSquare$Paving", "wide", "I"), (RX11, 284, "BreathSquare$Paving", "wide", "I"), (RX11, 156, "BreathSquare$Ways", "steps", "[I"), (RX11, 188, "BreathSquare$Places", "first", "I"), (RX11, 191, "BreathSquare$Places", "second", "I"), (RX11, 185, "BreathSquare$Places", "together", "I"), (RX11, 230, "BreathSquare$Readings", "count", "I"), (RX3, 46, "BreathSquare$Sheet", "cells", "[I"), (RX11, 256, "BreathSquare$Sheet", "cells", "[I"), (RX11, 259, "BreathSquare$Sheet", "sort", "I")]
def nwM : List (String × Nat × MethodName) := [(RX11, 11, yX8_init), (RX11, 20, yX3_init), (RX3, 11, yX7_init), (RX3, 14, yX0_init), (RX0, 1, yX7_init), (RX3, 17, yX1_init), (RX1, 1, yX0_init), (RX11, 64, yX6_init), (RX3, 63, yX11_isWithin)]
def NW (U : State) : Prop := (∀ q ∈ nwF, va_Nw (.fieldLinkNest q.1 q.2.1 q.2.2.1 q.2.2.2.1 q.2.2.2.2 "BreathSquare") U) ∧ (∀ q ∈ nwM, va_Nw (.methodLinkNest q.1 q.2.1 q.2.2 "BreathSquare") U) ∧ va_Nw (.declares ⟨"BreathSquare$Stone", "stoneTelling", "(ILBreathSquare$Trace;)I"⟩) U
theorem NW.warm {s U : State} (hW : s.WarmedH U.vm) (h : NW s) : NW U := ⟨fun q hq => va_Nw.warmF hW (h.1 q hq), fun q hq => va_Nw.warmM hW (h.2.1 q hq), va_Nw.warmD hW h.2.2⟩
theorem NW.same {u U : State} (e : u.vm = U.vm) (h : NW u) : NW U := ⟨fun q hq => va_Nw.same rfl e (h.1 q hq), fun q hq => va_Nw.same rfl e (h.2.1 q hq), va_Nw.same rfl e h.2.2⟩
theorem NW.f {U : State} (h : NW U) (i : Nat) {q : String × Nat × String × String × String} (hq : nwF[i]? = some q) (A : Array Value) : (Cond.fieldLinkNest q.1 q.2.1 q.2.2.1 q.2.2.2.1 q.2.2.2.2 "BreathSquare").before A U = true := va_Nw.use rfl (h.1 q (List.mem_of_getElem? hq))
theorem NW.m {U : State} (h : NW U) (i : Nat) {q : String × Nat × MethodName} (hq : nwM[i]? = some q) : va_Nw (.methodLinkNest q.1 q.2.1 q.2.2 "BreathSquare") U := h.2.1 q (List.mem_of_getElem? hq)
def wC (g : Nat → ClassId) (a : Nat → Nat) (M : Mem) : va_W := [
  (a 0, .inr (11, [.ref (a 1), .ref (a 2), .ref (a 3), .ref (a 4), .ref (a 5), .ref (a 6), .ref (a 7), .ref (a 8), .int (M 0 8)])),
  (a 1, .inr (8, [.int (M 1 0)])),
  (a 2, .inr (3, [.ref (a 17), .ref (a 21), .ref (a 22), .ref (a 23), .ref (a 24), .ref (a 25), .ref (a 26), .ref (a 27), .int (M 2 8), .int (M 2 9)])),
  (a 3, .inr (10, [.ref (a 2), .ref (a 28), .ref (a 29), .ref (a 30), .ref (a 31), .ref (a 32)])),
  (a 4, .inr (4, [.ref (a 2), .ref (a 33), .ref (a 34), .int (M 4 3), .int (M 4 4), .int (M 4 5)])),
  (a 5, .inr (9, [.ref (a 2), .ref (a 35), .ref (a 36)])),
  (a 6, .inr (2, [.ref (a 2), .ref (a 37)])),
  (a 7, .inr (5, [.ref (a 2), .ref (a 38), .ref (a 39), .ref (a 40), .int (M 7 4)])),
  (a 8, .inl (g 2, 4, .inr (.inr (.inr (.inr (fun j => some (a (9 + j)))))))),
  (a 9, .inr (6, [.ref (a 13), .int (M 9 1), .int (M 9 2)])),
  (a 10, .inr (6, [.ref (a 14), .int (M 10 1), .int (M 10 2)])),
  (a 11, .inr (6, [.ref (a 15), .int (M 11 1), .int (M 11 2)])),
  (a 12, .inr (6, [.ref (a 16), .int (M 12 1), .int (M 12 2)])),
  (a 13, .inl (g 0, 80, .inl (M 13))),
  (a 14, .inl (g 0, 80, .inl (M 14))),
  (a 15, .inl (g 0, 80, .inl (M 15))),
  (a 16, .inl (g 0, 80, .inl (M 16))),
  (a 17, .inl (g 3, 3, .inr (.inr (.inr (.inr (fun j => some (a (18 + j)))))))),
  (a 18, .inr (7, [])),
  (a 19, .inr (0, [])),
  (a 20, .inr (1, [])),
  (a 21, .inl (g 0, 30, .inl (M 21))),
  (a 22, .inl (g 0, 30, .inl (M 22))),
  (a 23, .inl (g 0, 30, .inl (M 23))),
  (a 24, .inl (g 0, 30, .inl (M 24))),
  (a 25, .inl (g 0, 30, .inl (M 25))),
  (a 26, .inl (g 0, 12, .inl (M 26))),
  (a 27, .inl (g 0, 12, .inl (M 27))),
  (a 28, .inl (g 0, 30, .inl (M 28))),
  (a 29, .inl (g 0, 30, .inl (M 29))),
  (a 30, .inl (g 0, 30, .inl (M 30))),
  (a 31, .inl (g 0, 30, .inl (M 31))),
  (a 32, .inl (g 0, 30, .inl (M 32))),
  (a 33, .inl (g 0, 30, .inl (M 33))),
  (a 34, .inl (g 0, 30, .inl (M 34))),
  (a 35, .inl (g 0, 30, .inl (M 35))),
  (a 36, .inl (g 0, 30, .inl (M 36))),
  (a 37, .inl (g 0, 30, .inl (M 37))),
  (a 38, .inl (g 0, 10, .inl (M 38))),
  (a 39, .inl (g 0, 10, .inl (M 39))),
  (a 40, .inl (g 0, 10, .inl (M 40)))]
theorem aC_0 (g : Nat → ClassId) (a : Nat → Nat) (M : Mem) : (wC g a M)[0]? = some (a 0, .inr (11, [.ref (a 1), .ref (a 2), .ref (a 3), .ref (a 4), .ref (a 5), .ref (a 6), .ref (a 7), .ref (a 8), .int (M 0 8)])) := rfl
theorem aC_1 (g : Nat → ClassId) (a : Nat → Nat) (M : Mem) : (wC g a M)[1]? = some (a 1, .inr (8, [.int (M 1 0)])) := rfl
theorem aC_2 (g : Nat → ClassId) (a : Nat → Nat) (M : Mem) : (wC g a M)[2]? = some (a 2, .inr (3, [.ref (a 17), .ref (a 21), .ref (a 22), .ref (a 23), .ref (a 24), .ref (a 25), .ref (a 26), .ref (a 27), .int (M 2 8), .int (M 2 9)])) := rfl
theorem aC_3 (g : Nat → ClassId) (a : Nat → Nat) (M : Mem) : (wC g a M)[3]? = some (a 3, .inr (10, [.ref (a 2), .ref (a 28), .ref (a 29), .ref (a 30), .ref (a 31), .ref (a 32)])) := rfl
theorem aC_4 (g : Nat → ClassId) (a : Nat → Nat) (M : Mem) : (wC g a M)[4]? = some (a 4, .inr (4, [.ref (a 2), .ref (a 33), .ref (a 34), .int (M 4 3), .int (M 4 4), .int (M 4 5)])) := rfl
theorem aC_5 (g : Nat → ClassId) (a : Nat → Nat) (M : Mem) : (wC g a M)[5]? = some (a 5, .inr (9, [.ref (a 2), .ref (a 35), .ref (a 36)])) := rfl
theorem aC_6 (g : Nat → ClassId) (a : Nat → Nat) (M : Mem) : (wC g a M)[6]? = some (a 6, .inr (2, [.ref (a 2), .ref (a 37)])) := rfl
theorem aC_7 (g : Nat → ClassId) (a : Nat → Nat) (M : Mem) : (wC g a M)[7]? = some (a 7, .inr (5, [.ref (a 2), .ref (a 38), .ref (a 39), .ref (a 40), .int (M 7 4)])) := rfl
theorem aC_8 (g : Nat → ClassId) (a : Nat → Nat) (M : Mem) : (wC g a M)[8]? = some (a 8, .inl (g 2, 4, .inr (.inr (.inr (.inr (fun j => some (a (9 + j)))))))) := rfl
theorem aC_9 (g : Nat → ClassId) (a : Nat → Nat) (M : Mem) : (wC g a M)[9]? = some (a 9, .inr (6, [.ref (a 13), .int (M 9 1), .int (M 9 2)])) := rfl
theorem aC_10 (g : Nat → ClassId) (a : Nat → Nat) (M : Mem) : (wC g a M)[10]? = some (a 10, .inr (6, [.ref (a 14), .int (M 10 1), .int (M 10 2)])) := rfl
theorem aC_11 (g : Nat → ClassId) (a : Nat → Nat) (M : Mem) : (wC g a M)[11]? = some (a 11, .inr (6, [.ref (a 15), .int (M 11 1), .int (M 11 2)])) := rfl
theorem aC_12 (g : Nat → ClassId) (a : Nat → Nat) (M : Mem) : (wC g a M)[12]? = some (a 12, .inr (6, [.ref (a 16), .int (M 12 1), .int (M 12 2)])) := rfl
theorem aC_13 (g : Nat → ClassId) (a : Nat → Nat) (M : Mem) : (wC g a M)[13]? = some (a 13, .inl (g 0, 80, .inl (M 13))) := rfl
theorem aC_14 (g : Nat → ClassId) (a : Nat → Nat) (M : Mem) : (wC g a M)[14]? = some (a 14, .inl (g 0, 80, .inl (M 14))) := rfl
theorem aC_15 (g : Nat → ClassId) (a : Nat → Nat) (M : Mem) : (wC g a M)[15]? = some (a 15, .inl (g 0, 80, .inl (M 15))) := rfl
theorem aC_16 (g : Nat → ClassId) (a : Nat → Nat) (M : Mem) : (wC g a M)[16]? = some (a 16, .inl (g 0, 80, .inl (M 16))) := rfl
theorem aC_17 (g : Nat → ClassId) (a : Nat → Nat) (M : Mem) : (wC g a M)[17]? = some (a 17, .inl (g 3, 3, .inr (.inr (.inr (.inr (fun j => some (a (18 + j)))))))) := rfl
theorem aC_18 (g : Nat → ClassId) (a : Nat → Nat) (M : Mem) : (wC g a M)[18]? = some (a 18, .inr (7, [])) := rfl
theorem aC_19 (g : Nat → ClassId) (a : Nat → Nat) (M : Mem) : (wC g a M)[19]? = some (a 19, .inr (0, [])) := rfl
theorem aC_20 (g : Nat → ClassId) (a : Nat → Nat) (M : Mem) : (wC g a M)[20]? = some (a 20, .inr (1, [])) := rfl
theorem aC_21 (g : Nat → ClassId) (a : Nat → Nat) (M : Mem) : (wC g a M)[21]? = some (a 21, .inl (g 0, 30, .inl (M 21))) := rfl
theorem aC_22 (g : Nat → ClassId) (a : Nat → Nat) (M : Mem) : (wC g a M)[22]? = some (a 22, .inl (g 0, 30, .inl (M 22))) := rfl
theorem aC_23 (g : Nat → ClassId) (a : Nat → Nat) (M : Mem) : (wC g a M)[23]? = some (a 23, .inl (g 0, 30, .inl (M 23))) := rfl
theorem aC_24 (g : Nat → ClassId) (a : Nat → Nat) (M : Mem) : (wC g a M)[24]? = some (a 24, .inl (g 0, 30, .inl (M 24))) := rfl
theorem aC_25 (g : Nat → ClassId) (a : Nat → Nat) (M : Mem) : (wC g a M)[25]? = some (a 25, .inl (g 0, 30, .inl (M 25))) := rfl
theorem aC_26 (g : Nat → ClassId) (a : Nat → Nat) (M : Mem) : (wC g a M)[26]? = some (a 26, .inl (g 0, 12, .inl (M 26))) := rfl
theorem aC_27 (g : Nat → ClassId) (a : Nat → Nat) (M : Mem) : (wC g a M)[27]? = some (a 27, .inl (g 0, 12, .inl (M 27))) := rfl
theorem aC_28 (g : Nat → ClassId) (a : Nat → Nat) (M : Mem) : (wC g a M)[28]? = some (a 28, .inl (g 0, 30, .inl (M 28))) := rfl
theorem aC_29 (g : Nat → ClassId) (a : Nat → Nat) (M : Mem) : (wC g a M)[29]? = some (a 29, .inl (g 0, 30, .inl (M 29))) := rfl
theorem aC_30 (g : Nat → ClassId) (a : Nat → Nat) (M : Mem) : (wC g a M)[30]? = some (a 30, .inl (g 0, 30, .inl (M 30))) := rfl
theorem aC_31 (g : Nat → ClassId) (a : Nat → Nat) (M : Mem) : (wC g a M)[31]? = some (a 31, .inl (g 0, 30, .inl (M 31))) := rfl
theorem aC_32 (g : Nat → ClassId) (a : Nat → Nat) (M : Mem) : (wC g a M)[32]? = some (a 32, .inl (g 0, 30, .inl (M 32))) := rfl
theorem aC_33 (g : Nat → ClassId) (a : Nat → Nat) (M : Mem) : (wC g a M)[33]? = some (a 33, .inl (g 0, 30, .inl (M 33))) := rfl
theorem aC_34 (g : Nat → ClassId) (a : Nat → Nat) (M : Mem) : (wC g a M)[34]? = some (a 34, .inl (g 0, 30, .inl (M 34))) := rfl
theorem aC_35 (g : Nat → ClassId) (a : Nat → Nat) (M : Mem) : (wC g a M)[35]? = some (a 35, .inl (g 0, 30, .inl (M 35))) := rfl
theorem aC_36 (g : Nat → ClassId) (a : Nat → Nat) (M : Mem) : (wC g a M)[36]? = some (a 36, .inl (g 0, 30, .inl (M 36))) := rfl
theorem aC_37 (g : Nat → ClassId) (a : Nat → Nat) (M : Mem) : (wC g a M)[37]? = some (a 37, .inl (g 0, 30, .inl (M 37))) := rfl
theorem aC_38 (g : Nat → ClassId) (a : Nat → Nat) (M : Mem) : (wC g a M)[38]? = some (a 38, .inl (g 0, 10, .inl (M 38))) := rfl
theorem aC_39 (g : Nat → ClassId) (a : Nat → Nat) (M : Mem) : (wC g a M)[39]? = some (a 39, .inl (g 0, 10, .inl (M 39))) := rfl
theorem aC_40 (g : Nat → ClassId) (a : Nat → Nat) (M : Mem) : (wC g a M)[40]? = some (a 40, .inl (g 0, 10, .inl (M 40))) := rfl
theorem sC_0_8 (g : Nat → ClassId) (a : Nat → Nat) (M : Mem) (v : Int32) : (wC g a M).set 0 (a 0, .inr (11, ([.ref (a 1), .ref (a 2), .ref (a 3), .ref (a 4), .ref (a 5), .ref (a 6), .ref (a 7), .ref (a 8), .int (M 0 8)] : List Value).set 8 (.int v))) = wC g a (up M 0 8 v) := rfl
theorem sC_1_0 (g : Nat → ClassId) (a : Nat → Nat) (M : Mem) (v : Int32) : (wC g a M).set 1 (a 1, .inr (8, ([.int (M 1 0)] : List Value).set 0 (.int v))) = wC g a (up M 1 0 v) := rfl
theorem sC_2_8 (g : Nat → ClassId) (a : Nat → Nat) (M : Mem) (v : Int32) : (wC g a M).set 2 (a 2, .inr (3, ([.ref (a 17), .ref (a 21), .ref (a 22), .ref (a 23), .ref (a 24), .ref (a 25), .ref (a 26), .ref (a 27), .int (M 2 8), .int (M 2 9)] : List Value).set 8 (.int v))) = wC g a (up M 2 8 v) := rfl
theorem sC_2_9 (g : Nat → ClassId) (a : Nat → Nat) (M : Mem) (v : Int32) : (wC g a M).set 2 (a 2, .inr (3, ([.ref (a 17), .ref (a 21), .ref (a 22), .ref (a 23), .ref (a 24), .ref (a 25), .ref (a 26), .ref (a 27), .int (M 2 8), .int (M 2 9)] : List Value).set 9 (.int v))) = wC g a (up M 2 9 v) := rfl
theorem sC_4_3 (g : Nat → ClassId) (a : Nat → Nat) (M : Mem) (v : Int32) : (wC g a M).set 4 (a 4, .inr (4, ([.ref (a 2), .ref (a 33), .ref (a 34), .int (M 4 3), .int (M 4 4), .int (M 4 5)] : List Value).set 3 (.int v))) = wC g a (up M 4 3 v) := rfl
theorem sC_4_4 (g : Nat → ClassId) (a : Nat → Nat) (M : Mem) (v : Int32) : (wC g a M).set 4 (a 4, .inr (4, ([.ref (a 2), .ref (a 33), .ref (a 34), .int (M 4 3), .int (M 4 4), .int (M 4 5)] : List Value).set 4 (.int v))) = wC g a (up M 4 4 v) := rfl
theorem sC_4_5 (g : Nat → ClassId) (a : Nat → Nat) (M : Mem) (v : Int32) : (wC g a M).set 4 (a 4, .inr (4, ([.ref (a 2), .ref (a 33), .ref (a 34), .int (M 4 3), .int (M 4 4), .int (M 4 5)] : List Value).set 5 (.int v))) = wC g a (up M 4 5 v) := rfl
theorem sC_7_4 (g : Nat → ClassId) (a : Nat → Nat) (M : Mem) (v : Int32) : (wC g a M).set 7 (a 7, .inr (5, ([.ref (a 2), .ref (a 38), .ref (a 39), .ref (a 40), .int (M 7 4)] : List Value).set 4 (.int v))) = wC g a (up M 7 4 v) := rfl
theorem sC_9_1 (g : Nat → ClassId) (a : Nat → Nat) (M : Mem) (v : Int32) : (wC g a M).set 9 (a 9, .inr (6, ([.ref (a 13), .int (M 9 1), .int (M 9 2)] : List Value).set 1 (.int v))) = wC g a (up M 9 1 v) := rfl
theorem sC_9_2 (g : Nat → ClassId) (a : Nat → Nat) (M : Mem) (v : Int32) : (wC g a M).set 9 (a 9, .inr (6, ([.ref (a 13), .int (M 9 1), .int (M 9 2)] : List Value).set 2 (.int v))) = wC g a (up M 9 2 v) := rfl
theorem sC_10_1 (g : Nat → ClassId) (a : Nat → Nat) (M : Mem) (v : Int32) : (wC g a M).set 10 (a 10, .inr (6, ([.ref (a 14), .int (M 10 1), .int (M 10 2)] : List Value).set 1 (.int v))) = wC g a (up M 10 1 v) := rfl
theorem sC_10_2 (g : Nat → ClassId) (a : Nat → Nat) (M : Mem) (v : Int32) : (wC g a M).set 10 (a 10, .inr (6, ([.ref (a 14), .int (M 10 1), .int (M 10 2)] : List Value).set 2 (.int v))) = wC g a (up M 10 2 v) := rfl
theorem sC_11_1 (g : Nat → ClassId) (a : Nat → Nat) (M : Mem) (v : Int32) : (wC g a M).set 11 (a 11, .inr (6, ([.ref (a 15), .int (M 11 1), .int (M 11 2)] : List Value).set 1 (.int v))) = wC g a (up M 11 1 v) := rfl
theorem sC_11_2 (g : Nat → ClassId) (a : Nat → Nat) (M : Mem) (v : Int32) : (wC g a M).set 11 (a 11, .inr (6, ([.ref (a 15), .int (M 11 1), .int (M 11 2)] : List Value).set 2 (.int v))) = wC g a (up M 11 2 v) := rfl
theorem sC_12_1 (g : Nat → ClassId) (a : Nat → Nat) (M : Mem) (v : Int32) : (wC g a M).set 12 (a 12, .inr (6, ([.ref (a 16), .int (M 12 1), .int (M 12 2)] : List Value).set 1 (.int v))) = wC g a (up M 12 1 v) := rfl
theorem sC_12_2 (g : Nat → ClassId) (a : Nat → Nat) (M : Mem) (v : Int32) : (wC g a M).set 12 (a 12, .inr (6, ([.ref (a 16), .int (M 12 1), .int (M 12 2)] : List Value).set 2 (.int v))) = wC g a (up M 12 2 v) := rfl
theorem sC_13 (g : Nat → ClassId) (a : Nat → Nat) (M : Mem) (f : Nat → Int32) : (wC g a M).set 13 (a 13, .inl (g 0, 80, .inl f)) = wC g a (upA M 13 f) := rfl
theorem sC_14 (g : Nat → ClassId) (a : Nat → Nat) (M : Mem) (f : Nat → Int32) : (wC g a M).set 14 (a 14, .inl (g 0, 80, .inl f)) = wC g a (upA M 14 f) := rfl
theorem sC_15 (g : Nat → ClassId) (a : Nat → Nat) (M : Mem) (f : Nat → Int32) : (wC g a M).set 15 (a 15, .inl (g 0, 80, .inl f)) = wC g a (upA M 15 f) := rfl
theorem sC_16 (g : Nat → ClassId) (a : Nat → Nat) (M : Mem) (f : Nat → Int32) : (wC g a M).set 16 (a 16, .inl (g 0, 80, .inl f)) = wC g a (upA M 16 f) := rfl
theorem sC_21 (g : Nat → ClassId) (a : Nat → Nat) (M : Mem) (f : Nat → Int32) : (wC g a M).set 21 (a 21, .inl (g 0, 30, .inl f)) = wC g a (upA M 21 f) := rfl
theorem sC_22 (g : Nat → ClassId) (a : Nat → Nat) (M : Mem) (f : Nat → Int32) : (wC g a M).set 22 (a 22, .inl (g 0, 30, .inl f)) = wC g a (upA M 22 f) := rfl
theorem sC_23 (g : Nat → ClassId) (a : Nat → Nat) (M : Mem) (f : Nat → Int32) : (wC g a M).set 23 (a 23, .inl (g 0, 30, .inl f)) = wC g a (upA M 23 f) := rfl
theorem sC_24 (g : Nat → ClassId) (a : Nat → Nat) (M : Mem) (f : Nat → Int32) : (wC g a M).set 24 (a 24, .inl (g 0, 30, .inl f)) = wC g a (upA M 24 f) := rfl
theorem sC_25 (g : Nat → ClassId) (a : Nat → Nat) (M : Mem) (f : Nat → Int32) : (wC g a M).set 25 (a 25, .inl (g 0, 30, .inl f)) = wC g a (upA M 25 f) := rfl
theorem sC_26 (g : Nat → ClassId) (a : Nat → Nat) (M : Mem) (f : Nat → Int32) : (wC g a M).set 26 (a 26, .inl (g 0, 12, .inl f)) = wC g a (upA M 26 f) := rfl
theorem sC_27 (g : Nat → ClassId) (a : Nat → Nat) (M : Mem) (f : Nat → Int32) : (wC g a M).set 27 (a 27, .inl (g 0, 12, .inl f)) = wC g a (upA M 27 f) := rfl
theorem sC_28 (g : Nat → ClassId) (a : Nat → Nat) (M : Mem) (f : Nat → Int32) : (wC g a M).set 28 (a 28, .inl (g 0, 30, .inl f)) = wC g a (upA M 28 f) := rfl
theorem sC_29 (g : Nat → ClassId) (a : Nat → Nat) (M : Mem) (f : Nat → Int32) : (wC g a M).set 29 (a 29, .inl (g 0, 30, .inl f)) = wC g a (upA M 29 f) := rfl
theorem sC_30 (g : Nat → ClassId) (a : Nat → Nat) (M : Mem) (f : Nat → Int32) : (wC g a M).set 30 (a 30, .inl (g 0, 30, .inl f)) = wC g a (upA M 30 f) := rfl
theorem sC_31 (g : Nat → ClassId) (a : Nat → Nat) (M : Mem) (f : Nat → Int32) : (wC g a M).set 31 (a 31, .inl (g 0, 30, .inl f)) = wC g a (upA M 31 f) := rfl
theorem sC_32 (g : Nat → ClassId) (a : Nat → Nat) (M : Mem) (f : Nat → Int32) : (wC g a M).set 32 (a 32, .inl (g 0, 30, .inl f)) = wC g a (upA M 32 f) := rfl
theorem sC_33 (g : Nat → ClassId) (a : Nat → Nat) (M : Mem) (f : Nat → Int32) : (wC g a M).set 33 (a 33, .inl (g 0, 30, .inl f)) = wC g a (upA M 33 f) := rfl
theorem sC_34 (g : Nat → ClassId) (a : Nat → Nat) (M : Mem) (f : Nat → Int32) : (wC g a M).set 34 (a 34, .inl (g 0, 30, .inl f)) = wC g a (upA M 34 f) := rfl
theorem sC_35 (g : Nat → ClassId) (a : Nat → Nat) (M : Mem) (f : Nat → Int32) : (wC g a M).set 35 (a 35, .inl (g 0, 30, .inl f)) = wC g a (upA M 35 f) := rfl
theorem sC_36 (g : Nat → ClassId) (a : Nat → Nat) (M : Mem) (f : Nat → Int32) : (wC g a M).set 36 (a 36, .inl (g 0, 30, .inl f)) = wC g a (upA M 36 f) := rfl
theorem sC_37 (g : Nat → ClassId) (a : Nat → Nat) (M : Mem) (f : Nat → Int32) : (wC g a M).set 37 (a 37, .inl (g 0, 30, .inl f)) = wC g a (upA M 37 f) := rfl
theorem sC_38 (g : Nat → ClassId) (a : Nat → Nat) (M : Mem) (f : Nat → Int32) : (wC g a M).set 38 (a 38, .inl (g 0, 10, .inl f)) = wC g a (upA M 38 f) := rfl
theorem sC_39 (g : Nat → ClassId) (a : Nat → Nat) (M : Mem) (f : Nat → Int32) : (wC g a M).set 39 (a 39, .inl (g 0, 10, .inl f)) = wC g a (upA M 39 f) := rfl
theorem sC_40 (g : Nat → ClassId) (a : Nat → Nat) (M : Mem) (f : Nat → Int32) : (wC g a M).set 40 (a 40, .inl (g 0, 10, .inl f)) = wC g a (upA M 40 f) := rfl
theorem wC_at {g : Nat → ClassId} {a : Nat → Nat} {M : Mem} {i : Nat} {q : Nat × va_E} (h : (wC g a M)[i]? = some q) : i < 41 ∧ q.1 = a i := by
  have h1 : ((wC g a M).map Prod.fst)[i]? = some q.1 := by rw [List.getElem?_map, h]; rfl
  rw [show (wC g a M).map Prod.fst = (List.range 41).map a from rfl, List.getElem?_map] at h1
  obtain ⟨z, hz, hq⟩ := Option.map_eq_some_iff.mp h1
  obtain ⟨hl, e1⟩ := List.getElem?_eq_some_iff.mp hz
  rw [List.length_range] at hl
  rw [List.getElem_range] at e1
  exact ⟨hl, by rw [← hq, e1]⟩
theorem wC_D {g : Nat → ClassId} {a : Nat → Nat} {M : Mem} (hJ : Inj a 41) : va_D (inA a 41) (wC g a M) := by
  refine ⟨fun i j x y hx hy e => ?_, fun k q hk => ?_⟩
  · obtain ⟨h1, e1⟩ := wC_at hx
    obtain ⟨h2, e2⟩ := wC_at hy
    exact hJ i j h1 h2 (by rw [← e1, ← e2, e])
  · obtain ⟨h1, e1⟩ := wC_at hk
    exact ⟨k, h1, e1⟩
def wM (g : Nat → ClassId) (a : Nat → Nat) (M : Mem) : va_W := [
  (a 0, .inr (12, [.int (M 0 0), .int (M 0 1), .ref (a 1), .ref (a 2), .ref (a 3), .int (M 0 5), .int (M 0 6), .ref (a 4), .ref (a 5), .ref (a 6), .ref (a 7), .ref (a 8), .int (M 0 12), .int (M 0 13), .int (M 0 14), .ref (a 9), .ref (a 10), .ref (a 11), .ref (a 12), .ref (a 13), .ref (a 14), .int (M 0 21), .ref (a 15), .ref (a 16), .ref (a 17)])),
  (a 1, .inl (g 0, 4, .inl (M 1))),
  (a 2, .inl (g 0, 4, .inl (M 2))),
  (a 3, .inl (g 0, 320, .inl (M 3))),
  (a 4, .inl (g 0, 30, .inl (M 4))),
  (a 5, .inl (g 0, 30, .inl (M 5))),
  (a 6, .inl (g 0, 30, .inl (M 6))),
  (a 7, .inl (g 0, 12, .inl (M 7))),
  (a 8, .inl (g 0, 12, .inl (M 8))),
  (a 9, .inl (g 0, 30, .inl (M 9))),
  (a 10, .inl (g 0, 30, .inl (M 10))),
  (a 11, .inl (g 0, 30, .inl (M 11))),
  (a 12, .inl (g 0, 30, .inl (M 12))),
  (a 13, .inl (g 0, 30, .inl (M 13))),
  (a 14, .inl (g 1, 30, .inl (M 14))),
  (a 15, .inl (g 0, 10, .inl (M 15))),
  (a 16, .inl (g 0, 10, .inl (M 16))),
  (a 17, .inl (g 0, 10, .inl (M 17)))]
theorem aM_0 (g : Nat → ClassId) (a : Nat → Nat) (M : Mem) : (wM g a M)[0]? = some (a 0, .inr (12, [.int (M 0 0), .int (M 0 1), .ref (a 1), .ref (a 2), .ref (a 3), .int (M 0 5), .int (M 0 6), .ref (a 4), .ref (a 5), .ref (a 6), .ref (a 7), .ref (a 8), .int (M 0 12), .int (M 0 13), .int (M 0 14), .ref (a 9), .ref (a 10), .ref (a 11), .ref (a 12), .ref (a 13), .ref (a 14), .int (M 0 21), .ref (a 15), .ref (a 16), .ref (a 17)])) := rfl
theorem aM_1 (g : Nat → ClassId) (a : Nat → Nat) (M : Mem) : (wM g a M)[1]? = some (a 1, .inl (g 0, 4, .inl (M 1))) := rfl
theorem aM_2 (g : Nat → ClassId) (a : Nat → Nat) (M : Mem) : (wM g a M)[2]? = some (a 2, .inl (g 0, 4, .inl (M 2))) := rfl
theorem aM_3 (g : Nat → ClassId) (a : Nat → Nat) (M : Mem) : (wM g a M)[3]? = some (a 3, .inl (g 0, 320, .inl (M 3))) := rfl
theorem aM_4 (g : Nat → ClassId) (a : Nat → Nat) (M : Mem) : (wM g a M)[4]? = some (a 4, .inl (g 0, 30, .inl (M 4))) := rfl
theorem aM_5 (g : Nat → ClassId) (a : Nat → Nat) (M : Mem) : (wM g a M)[5]? = some (a 5, .inl (g 0, 30, .inl (M 5))) := rfl
theorem aM_6 (g : Nat → ClassId) (a : Nat → Nat) (M : Mem) : (wM g a M)[6]? = some (a 6, .inl (g 0, 30, .inl (M 6))) := rfl
theorem aM_7 (g : Nat → ClassId) (a : Nat → Nat) (M : Mem) : (wM g a M)[7]? = some (a 7, .inl (g 0, 12, .inl (M 7))) := rfl
theorem aM_8 (g : Nat → ClassId) (a : Nat → Nat) (M : Mem) : (wM g a M)[8]? = some (a 8, .inl (g 0, 12, .inl (M 8))) := rfl
theorem aM_9 (g : Nat → ClassId) (a : Nat → Nat) (M : Mem) : (wM g a M)[9]? = some (a 9, .inl (g 0, 30, .inl (M 9))) := rfl
theorem aM_10 (g : Nat → ClassId) (a : Nat → Nat) (M : Mem) : (wM g a M)[10]? = some (a 10, .inl (g 0, 30, .inl (M 10))) := rfl
theorem aM_11 (g : Nat → ClassId) (a : Nat → Nat) (M : Mem) : (wM g a M)[11]? = some (a 11, .inl (g 0, 30, .inl (M 11))) := rfl
theorem aM_12 (g : Nat → ClassId) (a : Nat → Nat) (M : Mem) : (wM g a M)[12]? = some (a 12, .inl (g 0, 30, .inl (M 12))) := rfl
theorem aM_13 (g : Nat → ClassId) (a : Nat → Nat) (M : Mem) : (wM g a M)[13]? = some (a 13, .inl (g 0, 30, .inl (M 13))) := rfl
theorem aM_14 (g : Nat → ClassId) (a : Nat → Nat) (M : Mem) : (wM g a M)[14]? = some (a 14, .inl (g 1, 30, .inl (M 14))) := rfl
theorem aM_15 (g : Nat → ClassId) (a : Nat → Nat) (M : Mem) : (wM g a M)[15]? = some (a 15, .inl (g 0, 10, .inl (M 15))) := rfl
theorem aM_16 (g : Nat → ClassId) (a : Nat → Nat) (M : Mem) : (wM g a M)[16]? = some (a 16, .inl (g 0, 10, .inl (M 16))) := rfl
theorem aM_17 (g : Nat → ClassId) (a : Nat → Nat) (M : Mem) : (wM g a M)[17]? = some (a 17, .inl (g 0, 10, .inl (M 17))) := rfl
theorem sM_0_0 (g : Nat → ClassId) (a : Nat → Nat) (M : Mem) (v : Int32) : (wM g a M).set 0 (a 0, .inr (12, ([.int (M 0 0), .int (M 0 1), .ref (a 1), .ref (a 2), .ref (a 3), .int (M 0 5), .int (M 0 6), .ref (a 4), .ref (a 5), .ref (a 6), .ref (a 7), .ref (a 8), .int (M 0 12), .int (M 0 13), .int (M 0 14), .ref (a 9), .ref (a 10), .ref (a 11), .ref (a 12), .ref (a 13), .ref (a 14), .int (M 0 21), .ref (a 15), .ref (a 16), .ref (a 17)] : List Value).set 0 (.int v))) = wM g a (up M 0 0 v) := rfl
theorem sM_0_1 (g : Nat → ClassId) (a : Nat → Nat) (M : Mem) (v : Int32) : (wM g a M).set 0 (a 0, .inr (12, ([.int (M 0 0), .int (M 0 1), .ref (a 1), .ref (a 2), .ref (a 3), .int (M 0 5), .int (M 0 6), .ref (a 4), .ref (a 5), .ref (a 6), .ref (a 7), .ref (a 8), .int (M 0 12), .int (M 0 13), .int (M 0 14), .ref (a 9), .ref (a 10), .ref (a 11), .ref (a 12), .ref (a 13), .ref (a 14), .int (M 0 21), .ref (a 15), .ref (a 16), .ref (a 17)] : List Value).set 1 (.int v))) = wM g a (up M 0 1 v) := rfl
theorem sM_0_5 (g : Nat → ClassId) (a : Nat → Nat) (M : Mem) (v : Int32) : (wM g a M).set 0 (a 0, .inr (12, ([.int (M 0 0), .int (M 0 1), .ref (a 1), .ref (a 2), .ref (a 3), .int (M 0 5), .int (M 0 6), .ref (a 4), .ref (a 5), .ref (a 6), .ref (a 7), .ref (a 8), .int (M 0 12), .int (M 0 13), .int (M 0 14), .ref (a 9), .ref (a 10), .ref (a 11), .ref (a 12), .ref (a 13), .ref (a 14), .int (M 0 21), .ref (a 15), .ref (a 16), .ref (a 17)] : List Value).set 5 (.int v))) = wM g a (up M 0 5 v) := rfl
theorem sM_0_6 (g : Nat → ClassId) (a : Nat → Nat) (M : Mem) (v : Int32) : (wM g a M).set 0 (a 0, .inr (12, ([.int (M 0 0), .int (M 0 1), .ref (a 1), .ref (a 2), .ref (a 3), .int (M 0 5), .int (M 0 6), .ref (a 4), .ref (a 5), .ref (a 6), .ref (a 7), .ref (a 8), .int (M 0 12), .int (M 0 13), .int (M 0 14), .ref (a 9), .ref (a 10), .ref (a 11), .ref (a 12), .ref (a 13), .ref (a 14), .int (M 0 21), .ref (a 15), .ref (a 16), .ref (a 17)] : List Value).set 6 (.int v))) = wM g a (up M 0 6 v) := rfl
theorem sM_0_12 (g : Nat → ClassId) (a : Nat → Nat) (M : Mem) (v : Int32) : (wM g a M).set 0 (a 0, .inr (12, ([.int (M 0 0), .int (M 0 1), .ref (a 1), .ref (a 2), .ref (a 3), .int (M 0 5), .int (M 0 6), .ref (a 4), .ref (a 5), .ref (a 6), .ref (a 7), .ref (a 8), .int (M 0 12), .int (M 0 13), .int (M 0 14), .ref (a 9), .ref (a 10), .ref (a 11), .ref (a 12), .ref (a 13), .ref (a 14), .int (M 0 21), .ref (a 15), .ref (a 16), .ref (a 17)] : List Value).set 12 (.int v))) = wM g a (up M 0 12 v) := rfl
theorem sM_0_13 (g : Nat → ClassId) (a : Nat → Nat) (M : Mem) (v : Int32) : (wM g a M).set 0 (a 0, .inr (12, ([.int (M 0 0), .int (M 0 1), .ref (a 1), .ref (a 2), .ref (a 3), .int (M 0 5), .int (M 0 6), .ref (a 4), .ref (a 5), .ref (a 6), .ref (a 7), .ref (a 8), .int (M 0 12), .int (M 0 13), .int (M 0 14), .ref (a 9), .ref (a 10), .ref (a 11), .ref (a 12), .ref (a 13), .ref (a 14), .int (M 0 21), .ref (a 15), .ref (a 16), .ref (a 17)] : List Value).set 13 (.int v))) = wM g a (up M 0 13 v) := rfl
theorem sM_0_14 (g : Nat → ClassId) (a : Nat → Nat) (M : Mem) (v : Int32) : (wM g a M).set 0 (a 0, .inr (12, ([.int (M 0 0), .int (M 0 1), .ref (a 1), .ref (a 2), .ref (a 3), .int (M 0 5), .int (M 0 6), .ref (a 4), .ref (a 5), .ref (a 6), .ref (a 7), .ref (a 8), .int (M 0 12), .int (M 0 13), .int (M 0 14), .ref (a 9), .ref (a 10), .ref (a 11), .ref (a 12), .ref (a 13), .ref (a 14), .int (M 0 21), .ref (a 15), .ref (a 16), .ref (a 17)] : List Value).set 14 (.int v))) = wM g a (up M 0 14 v) := rfl
theorem sM_0_21 (g : Nat → ClassId) (a : Nat → Nat) (M : Mem) (v : Int32) : (wM g a M).set 0 (a 0, .inr (12, ([.int (M 0 0), .int (M 0 1), .ref (a 1), .ref (a 2), .ref (a 3), .int (M 0 5), .int (M 0 6), .ref (a 4), .ref (a 5), .ref (a 6), .ref (a 7), .ref (a 8), .int (M 0 12), .int (M 0 13), .int (M 0 14), .ref (a 9), .ref (a 10), .ref (a 11), .ref (a 12), .ref (a 13), .ref (a 14), .int (M 0 21), .ref (a 15), .ref (a 16), .ref (a 17)] : List Value).set 21 (.int v))) = wM g a (up M 0 21 v) := rfl
theorem sM_1 (g : Nat → ClassId) (a : Nat → Nat) (M : Mem) (f : Nat → Int32) : (wM g a M).set 1 (a 1, .inl (g 0, 4, .inl f)) = wM g a (upA M 1 f) := rfl
theorem sM_2 (g : Nat → ClassId) (a : Nat → Nat) (M : Mem) (f : Nat → Int32) : (wM g a M).set 2 (a 2, .inl (g 0, 4, .inl f)) = wM g a (upA M 2 f) := rfl
theorem sM_3 (g : Nat → ClassId) (a : Nat → Nat) (M : Mem) (f : Nat → Int32) : (wM g a M).set 3 (a 3, .inl (g 0, 320, .inl f)) = wM g a (upA M 3 f) := rfl
theorem sM_4 (g : Nat → ClassId) (a : Nat → Nat) (M : Mem) (f : Nat → Int32) : (wM g a M).set 4 (a 4, .inl (g 0, 30, .inl f)) = wM g a (upA M 4 f) := rfl
theorem sM_5 (g : Nat → ClassId) (a : Nat → Nat) (M : Mem) (f : Nat → Int32) : (wM g a M).set 5 (a 5, .inl (g 0, 30, .inl f)) = wM g a (upA M 5 f) := rfl
theorem sM_6 (g : Nat → ClassId) (a : Nat → Nat) (M : Mem) (f : Nat → Int32) : (wM g a M).set 6 (a 6, .inl (g 0, 30, .inl f)) = wM g a (upA M 6 f) := rfl
theorem sM_7 (g : Nat → ClassId) (a : Nat → Nat) (M : Mem) (f : Nat → Int32) : (wM g a M).set 7 (a 7, .inl (g 0, 12, .inl f)) = wM g a (upA M 7 f) := rfl
theorem sM_8 (g : Nat → ClassId) (a : Nat → Nat) (M : Mem) (f : Nat → Int32) : (wM g a M).set 8 (a 8, .inl (g 0, 12, .inl f)) = wM g a (upA M 8 f) := rfl
theorem sM_9 (g : Nat → ClassId) (a : Nat → Nat) (M : Mem) (f : Nat → Int32) : (wM g a M).set 9 (a 9, .inl (g 0, 30, .inl f)) = wM g a (upA M 9 f) := rfl
theorem sM_10 (g : Nat → ClassId) (a : Nat → Nat) (M : Mem) (f : Nat → Int32) : (wM g a M).set 10 (a 10, .inl (g 0, 30, .inl f)) = wM g a (upA M 10 f) := rfl
theorem sM_11 (g : Nat → ClassId) (a : Nat → Nat) (M : Mem) (f : Nat → Int32) : (wM g a M).set 11 (a 11, .inl (g 0, 30, .inl f)) = wM g a (upA M 11 f) := rfl
theorem sM_12 (g : Nat → ClassId) (a : Nat → Nat) (M : Mem) (f : Nat → Int32) : (wM g a M).set 12 (a 12, .inl (g 0, 30, .inl f)) = wM g a (upA M 12 f) := rfl
theorem sM_13 (g : Nat → ClassId) (a : Nat → Nat) (M : Mem) (f : Nat → Int32) : (wM g a M).set 13 (a 13, .inl (g 0, 30, .inl f)) = wM g a (upA M 13 f) := rfl
theorem sM_14 (g : Nat → ClassId) (a : Nat → Nat) (M : Mem) (f : Nat → Int32) : (wM g a M).set 14 (a 14, .inl (g 1, 30, .inl f)) = wM g a (upA M 14 f) := rfl
theorem sM_15 (g : Nat → ClassId) (a : Nat → Nat) (M : Mem) (f : Nat → Int32) : (wM g a M).set 15 (a 15, .inl (g 0, 10, .inl f)) = wM g a (upA M 15 f) := rfl
theorem sM_16 (g : Nat → ClassId) (a : Nat → Nat) (M : Mem) (f : Nat → Int32) : (wM g a M).set 16 (a 16, .inl (g 0, 10, .inl f)) = wM g a (upA M 16 f) := rfl
theorem sM_17 (g : Nat → ClassId) (a : Nat → Nat) (M : Mem) (f : Nat → Int32) : (wM g a M).set 17 (a 17, .inl (g 0, 10, .inl f)) = wM g a (upA M 17 f) := rfl
theorem wM_at {g : Nat → ClassId} {a : Nat → Nat} {M : Mem} {i : Nat} {q : Nat × va_E} (h : (wM g a M)[i]? = some q) : i < 18 ∧ q.1 = a i := by
  have h1 : ((wM g a M).map Prod.fst)[i]? = some q.1 := by rw [List.getElem?_map, h]; rfl
  rw [show (wM g a M).map Prod.fst = (List.range 18).map a from rfl, List.getElem?_map] at h1
  obtain ⟨z, hz, hq⟩ := Option.map_eq_some_iff.mp h1
  obtain ⟨hl, e1⟩ := List.getElem?_eq_some_iff.mp hz
  rw [List.length_range] at hl
  rw [List.getElem_range] at e1
  exact ⟨hl, by rw [← hq, e1]⟩
theorem wM_D {g : Nat → ClassId} {a : Nat → Nat} {M : Mem} (hJ : Inj a 18) : va_D (inA a 18) (wM g a M) := by
  refine ⟨fun i j x y hx hy e => ?_, fun k q hk => ?_⟩
  · obtain ⟨h1, e1⟩ := wM_at hx
    obtain ⟨h2, e2⟩ := wM_at hy
    exact hJ i j h1 h2 (by rw [← e1, ← e2, e])
  · obtain ⟨h1, e1⟩ := wM_at hk
    exact ⟨k, h1, e1⟩
theorem lt4 {k : Nat} (h : k < 4) : k = 0 ∨ k = 1 ∨ k = 2 ∨ k = 3 := by omega
theorem k4 {i : Int32} (h : ¬ (i < 0 ∨ 4 ≤ i.toNatClampNeg)) : i.toNatClampNeg < 4 := Nat.not_le.mp fun q => h (Or.inr q)
theorem aC_S (g : Nat → ClassId) (a : Nat → Nat) (M : Mem) {k : Nat} (h : k < 4) : (wC g a M)[9 + k]? = some (a (9 + k), .inr (6, [.ref (a (13 + k)), .int (M (9 + k) 1), .int (M (9 + k) 2)])) := by
  rcases lt4 h with rfl | rfl | rfl | rfl <;> rfl
theorem aC_T (g : Nat → ClassId) (a : Nat → Nat) (M : Mem) {k : Nat} (h : k < 4) : (wC g a M)[13 + k]? = some (a (13 + k), .inl (g 0, 80, .inl (M (13 + k)))) := by
  rcases lt4 h with rfl | rfl | rfl | rfl <;> rfl
theorem sC_S1 (g : Nat → ClassId) (a : Nat → Nat) (M : Mem) (v : Int32) {k : Nat} (h : k < 4) : (wC g a M).set (9 + k) (a (9 + k), .inr (6, ([.ref (a (13 + k)), .int (M (9 + k) 1), .int (M (9 + k) 2)] : List Value).set 1 (.int v))) = wC g a (up M (9 + k) 1 v) := by
  rcases lt4 h with rfl | rfl | rfl | rfl <;> rfl
theorem sC_S2 (g : Nat → ClassId) (a : Nat → Nat) (M : Mem) (v : Int32) {k : Nat} (h : k < 4) : (wC g a M).set (9 + k) (a (9 + k), .inr (6, ([.ref (a (13 + k)), .int (M (9 + k) 1), .int (M (9 + k) 2)] : List Value).set 2 (.int v))) = wC g a (up M (9 + k) 2 v) := by
  rcases lt4 h with rfl | rfl | rfl | rfl <;> rfl
theorem sC_T (g : Nat → ClassId) (a : Nat → Nat) (M : Mem) {k : Nat} (h : k < 4) (f : Nat → Int32) : (wC g a M).set (13 + k) (a (13 + k), .inl (g 0, 80, .inl f)) = wC g a (upA M (13 + k) f) := by
  rcases lt4 h with rfl | rfl | rfl | rfl <;> rfl

def Pw (D : va_G) (tys : List (ClassId × FieldType)) (w : va_W) (av : List Value) : Array Value → State → Prop := fun v U => v = av.toArray ∧ va_P D clL w U.heap ∧ va_K D clL tys U ∧ NW U
theorem Pw.blind {D : va_G} {tys : List (ClassId × FieldType)} {w : va_W} {av : List Value} : FrameBlind (Pw D tys w av) := fun a U g mk q => ⟨q.1, q.2.1, va_K.moved (u := U) (U := U.calling g mk a) (Vm.Alike.refl U.vm) q.2.2.1, NW.same (u := U) (U := U.calling g mk a) rfl q.2.2.2⟩
/-- a method that writes nothing -/
def RdQ (v : Value) : Array Value → State → Outcome → State → Prop := fun _ st o t => o = .returned (some v) ∧ t.heap = st.heap
def WrQ (D : va_G) (w' : va_W) (A : Nat → Prop) (v : Value) : Array Value → State → Outcome → State → Prop := fun _ st o t => o = .returned (some v) ∧ va_P D clL w' t.heap ∧ va_F A st t
def WvQ (D : va_G) (w' : va_W) (A : Nat → Prop) : Array Value → State → Outcome → State → Prop := fun _ st o t => o = .returned none ∧ va_P D clL w' t.heap ∧ va_F A st t
abbrev cW (y : MethodName) (b : ByteArray) (n : Nat) (r : Option FieldType) : List Cond := .code y b n r :: gT
abbrev rmv (f n : Nat) : Room := { frames := f, cells := 0, slots := 0, locals := n }
def Cx (p : Program) (s : State) (m : MethodId) (args : Array Value) (meth : Method) (c : Code) (cc : ByteArray) (nL : Nat) (rt : Option FieldType) (own : String) (D : va_G) (tys : List (ClassId × FieldType)) : Prop :=
  p.tables.exec = Jvm.exec ∧ c.code = cc ∧ meth.sig.returnType = rt ∧ c.maxLocals = nL ∧ s.vm.findClass own = some m.cls ∧ (∀ w ∈ gT, w.before args s = true) ∧ meth.locks = false ∧ va_K D clL tys s ∧ NW s
theorem met_in {l : Launch} {y : MethodName} {cc : ByteArray} {nL : Nat} {rt : Option FieldType} {rm : Room} {D : va_G} {tys : List (ClassId × FieldType)} {w : va_W} {av : List Value} {Qc : Array Value → State → Outcome → State → Prop} {free : Addr → Prop} (hy : plainName y.cls = true) (hsz : (lg_sl av).length ≤ nL)
    (body : ∀ (p : Program) (e : Env) (s : State) (m : MethodId) (args : Array Value) (below : List Frame) (meth : Method) (c : Code) (ls : Array Slot), Cx p s m args meth c cc nL rt y.cls D tys → va_P D clL w s.heap → lv_has ls nL (lv_args 0 av) → W p l e rm s m args below meth c s.heap [] 0 0 (MQ below Qc args s 0 0 free) (F0 m 0 ls [])) : Met l y (cW y cc nL rt) rm (Pw D tys w av) Qc 0 0 free := by
  refine Met.ofW (cc := cc) (maxL := nL) (ret := rt) hy rfl ?_
  intro p e s m args below meth c s₁ B hml hv
  obtain ⟨rfl, hP, hK, hN⟩ := hv
  have hts := atoms_spec (ws := cW y cc nL rt) B.pre
  have hl := lv_entry av (n := nL) hsz
  rw [lg_entry_eq]
  exact body p e s m av.toArray below meth c _ ⟨B.exec, B.bytes, B.returns, hml, findClass_of_methodNamed B.named, fun w hw => hts w (List.mem_cons_of_mem _ hw), B.notSynchronized, hK, hN⟩ hP hl
theorem gGood {y : MethodName} {b : ByteArray} {n : Nat} {r : Option FieldType} (h : Cond.code y b n r ∈ gT) : GoodIn gT (cW y b n r) := by
  intro w hw
  rcases List.mem_cons.mp hw with rfl | h1
  · exact ⟨h, good_of_word (List.mem_filter.mp h).2⟩
  · exact ⟨h1, good_of_word (List.mem_filter.mp h1).2⟩
abbrev okD (y : MethodName) (n : Nat) : Prop := y.cls ≠ "java/lang/invoke/MethodHandle" ∧ y.cls ≠ "java/lang/invoke/VarHandle" ∧ (parseMethodDescriptor y.desc).map (fun d => d.parameters.length) = some n
/-- what a call of a virtual method asks of the tables -/
def okV (y : MethodName) (b : ByteArray) (nL : Nat) (r : Option FieldType) (n : Nat) : Prop := Cond.code y b nL r ∈ gT ∧ Cond.instanceMethod y ∈ gT ∧ Cond.selects y.cls y y ∈ gT ∧ Cond.initialized y.cls ∈ gT ∧ okD y n
def okS (y : MethodName) (b : ByteArray) (nL : Nat) (r : Option FieldType) (n : Nat) : Prop := Cond.code y b nL r ∈ gT ∧ Cond.static y ∈ gT ∧ Cond.initialized y.cls ∈ gT ∧ okD y n
abbrev rmOk (rm R : Room) (nL : Nat) : Prop := rm.cells = 0 ∧ rm.slots = 0 ∧ rm.frames + 1 ≤ R.frames ∧ 8 + (nL + 11) + rm.locals ≤ R.locals
section GC
variable {p : Program} {l : Launch} {e : Env} {R : Room} {s : State} {m : MethodId} {args : Array Value} {below : List Frame} {meth : Method} {c : Code} {H : Heap} {locs : List Loc} {cells slots : Nat} {Q : State → Prop}
variable {cc : ByteArray} {nL : Nat} {rt : Option FieldType} {own : String} {D : va_G} {tys : List (ClassId × FieldType)} {pc : Nat} {ls : Array Slot} {rest st : List Value} {w w' : va_W} {A : Nat → Prop} {a : Array Value}
variable {y : MethodName} {bytes : ByteArray} {maxL n index : Nat} {ret : Option FieldType} {rm : Room} {Qc : Array Value → State → Outcome → State → Prop} {free : Addr → Prop} {b : Nat} {As : List Value}
theorem rV (C : Cx p s m args meth c cc nL rt own D tys) (hM : Met l y (cW y bytes maxL ret) rm (Pw D tys w (.ref b :: As)) Qc 0 0 free) (ok : okV y bytes maxL ret n) (hlk : Cond.methodLink own index y ∈ gT) (hP : va_P D clL w H) (q0 : Nat) {ci : Nat} {fs : List Value} {T : u_T} {N : Nat} (he : w[q0]? = some (b, .inr (ci, fs))) (hc : clL[ci]? = some (y.cls, T, N)) (hrm : rmOk rm R maxL) (hn : As.length = n) (hsz : ls.size = nL) (hst : st = As.reverse ++ .ref b :: rest) (h8 : (rest.map fun v => v.category).sum ≤ 8) (hdg : decode cc pc = .ok (.invokevirtual index, 3)) (hcs : cells ≤ R.cells ∧ slots ≤ R.slots) :
    va_Run p l e R s m args below meth c H locs cells slots 0 0 (F0 m pc ls st) rest (Qc (Value.ref b :: As).toArray) free := by
  obtain ⟨hx, hb, hr, hml, hown, ht, hlocks, hK, hN⟩ := C
  obtain ⟨o1, o2, o3, o4, o5⟩ := ok
  obtain ⟨r1, r2, r3, r4⟩ := hrm
  exact va_runV (Ts := gT) ⟨hx, hb, hml, hown, ht⟩ hM ⟨callB_of n ht (gGood o1) rfl r1 r2 (ht _ o4) (ht _ hlk) o5 ⟨r3, r4⟩, ht _ o2, ht _ o3⟩ ⟨Pw.blind, va_recv hK hP hc he, fun U hU hW => ⟨rfl, by rw [hU]; exact hP, va_K.moved hW.alike hK, NW.warm hW hN⟩⟩ rfl hn hsz hst (lv_room h8) hdg hcs
theorem rS (C : Cx p s m args meth c cc nL rt own D tys) (hM : Met l y (cW y bytes maxL ret) rm (Pw D tys w As) Qc 0 0 free) (ok : okS y bytes maxL ret n) (hlk : Cond.methodLink own index y ∈ gT) (hP : va_P D clL w H) (hrm : rmOk rm R maxL) (hn : As.length = n) (hsz : ls.size = nL) (hst : st = As.reverse ++ rest) (h8 : (rest.map fun v => v.category).sum ≤ 8) (hdg : decode cc pc = .ok (.invokestatic index, 3)) (hcs : cells ≤ R.cells ∧ slots ≤ R.slots) :
    va_Run p l e R s m args below meth c H locs cells slots 0 0 (F0 m pc ls st) rest (Qc As.toArray) free := by
  obtain ⟨hx, hb, hr, hml, hown, ht, hlocks, hK, hN⟩ := C
  obtain ⟨o1, o2, o4, o5⟩ := ok
  obtain ⟨r1, r2, r3, r4⟩ := hrm
  exact va_runS (Ts := gT) ⟨hx, hb, hml, hown, ht⟩ hM ⟨callB_of n ht (gGood o1) rfl r1 r2 (ht _ o4) (ht _ hlk) o5 ⟨r3, r4⟩, ht _ o2⟩ ⟨Pw.blind, fun U hU hW => ⟨rfl, by rw [hU]; exact hP, va_K.moved hW.alike hK, NW.warm hW hN⟩⟩ rfl hn hsz hst (lv_room h8) hdg hcs
theorem rSN (C : Cx p s m args meth c cc nL rt own D tys) (hM : Met l y (cW y bytes maxL ret) rm (Pw D tys w As) Qc 0 0 free) (ok : okS y bytes maxL ret n) (hlk : va_Nw (.methodLinkNest own index y "BreathSquare") s) (hP : va_P D clL w H) (hrm : rmOk rm R maxL) (hn : As.length = n) (hsz : ls.size = nL) (hst : st = As.reverse ++ rest) (h8 : (rest.map fun v => v.category).sum ≤ 8) (hdg : decode cc pc = .ok (.invokestatic index, 3)) (hcs : cells ≤ R.cells ∧ slots ≤ R.slots) :
    va_Run p l e R s m args below meth c H locs cells slots 0 0 (F0 m pc ls st) rest (Qc As.toArray) free := by
  obtain ⟨hx, hb, hr, hml, hown, ht, hlocks, hK, hN⟩ := C
  obtain ⟨o1, o2, o4, o5⟩ := ok
  obtain ⟨r1, r2, r3, r4⟩ := hrm
  exact va_runSN (Ts := gT) ⟨hx, hb, hml, hown, ht⟩ hM ⟨va_cnB n ht (gGood o1) rfl r1 r2 hlk (ht _ o4) o5 ⟨r3, r4⟩, ht _ o2, trivial⟩ ⟨Pw.blind, fun U hU hW => ⟨rfl, by rw [hU]; exact hP, va_K.moved hW.alike hK, NW.warm hW hN⟩⟩ rfl hn hsz hst (lv_room h8) hdg hcs
theorem kR {v : Value} (hr : va_Run p l e R s m args below meth c H locs cells slots 0 0 (F0 m pc ls st) rest (RdQ v a) nof) (kk : W p l e R s m args below meth c H locs cells slots Q (F0 m (pc + 3) ls (v :: rest))) : W p l e R s m args below meth c H locs cells slots Q (F0 m pc ls st) := by
  intro T hT X
  obtain ⟨v', st₀, t, T', L, h0, X', hL, e1, e2, ⟨hv, hh⟩, stp⟩ := hr T hT X
  cases hv
  obtain ⟨t2, a1, b1⟩ := kk T' (by rw [e1, hh, h0]) (Stand.forget X' (fun q h => (hL q h).elim))
  exact ⟨t2, stp t2 a1, b1⟩
theorem kW {v : Value} {H0 : Heap} (hr : va_Run p l e R s m args below meth c H locs cells slots 0 0 (F0 m pc ls st) rest (WrQ D w' A v a) A) (hS : va_S A H0 H locs) (kk : ∀ (H1 : Heap) (locs1 : List Loc), va_P D clL w' H1 → va_S A H0 H1 locs1 → W p l e R s m args below meth c H1 locs1 cells slots Q (F0 m (pc + 3) ls (v :: rest))) : W p l e R s m args below meth c H locs cells slots Q (F0 m pc ls st) := by
  intro T hT X
  obtain ⟨v', st₀, t, T', L, h0, X', hL, e1, e2, ⟨hv, hp, hz, hk⟩, stp⟩ := hr T hT X
  cases hv
  rw [h0] at hz hk
  obtain ⟨t2, a1, b1⟩ := kk T'.heap (locs ++ L) (by rw [e1]; exact hp)
    ⟨Nat.le_trans hS.1 (by rw [e1]; exact hz), fun q h1 h2 => by rw [e1, hk q (Nat.lt_of_lt_of_le h1 hS.1) h2]; exact hS.2.1 q h1 h2, fun q hq => by
      rcases List.mem_append.mp hq with h | h
      · exact hS.2.2 q h
      · exact hL q h⟩ T' rfl X'
  exact ⟨t2, stp t2 a1, b1⟩
theorem kWv {H0 : Heap} (hr : va_Run p l e R s m args below meth c H locs cells slots 0 0 (F0 m pc ls st) rest (WvQ D w' A a) A) (hS : va_S A H0 H locs) (kk : ∀ (H1 : Heap) (locs1 : List Loc), va_P D clL w' H1 → va_S A H0 H1 locs1 → W p l e R s m args below meth c H1 locs1 cells slots Q (F0 m (pc + 3) ls rest)) : W p l e R s m args below meth c H locs cells slots Q (F0 m pc ls st) := by
  intro T hT X
  obtain ⟨v', st₀, t, T', L, h0, X', hL, e1, e2, ⟨hv, hp, hz, hk⟩, stp⟩ := hr T hT X
  cases hv
  rw [h0] at hz hk
  obtain ⟨t2, a1, b1⟩ := kk T'.heap (locs ++ L) (by rw [e1]; exact hp)
    ⟨Nat.le_trans hS.1 (by rw [e1]; exact hz), fun q h1 h2 => by rw [e1, hk q (Nat.lt_of_lt_of_le h1 hS.1) h2]; exact hS.2.1 q h1 h2, fun q hq => by
      rcases List.mem_append.mp hq with h | h
      · exact hS.2.2 q h
      · exact hL q h⟩ T' rfl X'
  exact ⟨t2, stp t2 a1, b1⟩
variable {M : Mem}
/-- a store into a row of ints: the row is one of the world's -/
theorem ast (wf : Mem → va_W) (C : Cx p s m args meth c cc nL rt own D tys) (hP : va_P D clL (wf M) H) (hD : va_D A (wf M)) {H0 : Heap} (hS : va_S A H0 H locs) (k t0 : Nat) {cA : ClassId} {n : Nat} (he : (wf M)[k]? = some (b, .inl (cA, n, .inl (M k)))) (ht0 : tys[t0]? = some (cA, .int)) (hs : ∀ f : Nat → Int32, (wf M).set k (b, .inl (cA, n, .inl f)) = wf (upA M k f)) {i x : Int32} (hin : ¬ (i < 0 ∨ n ≤ i.toNatClampNeg)) (hdg : decode cc pc = .ok (.iastore, 1))
    (kk : ∀ (H1 : Heap) (locs1 : List Loc), va_P D clL (wf (up M k i.toNatClampNeg x)) H1 → va_S A H0 H1 locs1 → W p l e R s m args below meth c H1 locs1 cells slots Q (F0 m (pc + 1) ls rest)) : W p l e R s m args below meth c H locs cells slots Q (F0 m pc ls (.int x :: .int i :: .ref b :: rest)) := by
  obtain ⟨hx, hb, hr, hml, hown, ht, hlocks, hK, hN⟩ := C
  exact va_iast hx hb hK hP hD hS k t0 he ht0 hin hdg (fun H1 locs1 h1 _ h3 => kk H1 locs1 (by rw [hs] at h1; exact h1) h3)
theorem zst (wf : Mem → va_W) (C : Cx p s m args meth c cc nL rt own D tys) (hP : va_P D clL (wf M) H) (hD : va_D A (wf M)) {H0 : Heap} (hS : va_S A H0 H locs) (k t0 : Nat) {cA : ClassId} {n : Nat} (he : (wf M)[k]? = some (b, .inl (cA, n, .inl (M k)))) (ht0 : tys[t0]? = some (cA, .boolean)) (hs : ∀ f : Nat → Int32, (wf M).set k (b, .inl (cA, n, .inl f)) = wf (upA M k f)) {i x : Int32} (hx01 : vp_nar .boolean x = x) (hin : ¬ (i < 0 ∨ n ≤ i.toNatClampNeg)) (hdg : decode cc pc = .ok (.bastore, 1))
    (kk : ∀ (H1 : Heap) (locs1 : List Loc), va_P D clL (wf (up M k i.toNatClampNeg x)) H1 → va_S A H0 H1 locs1 → W p l e R s m args below meth c H1 locs1 cells slots Q (F0 m (pc + 1) ls rest)) : W p l e R s m args below meth c H locs cells slots Q (F0 m pc ls (.int x :: .int i :: .ref b :: rest)) := by
  obtain ⟨hx, hb, hr, hml, hown, ht, hlocks, hK, hN⟩ := C
  exact va_zast hx hb hK hP hD hS k t0 he ht0 hin hdg (fun H1 locs1 h1 _ h3 => kk H1 locs1 (by rw [hx01, hs] at h1; exact h1) h3)
/-- returns -/
theorem retR {v : Int32} (C : Cx p s m args meth c cc nL (some .int) own D tys) (hdg : decode cc pc = .ok (.ireturn, 1)) : W p l e R s m args below meth c s.heap [] 0 0 (MQ below (RdQ (.int v)) args s 0 0 nof) (F0 m pc ls [.int v]) := by
  obtain ⟨hx, hb, hr, hml, hown, ht, hlocks, hK, hN⟩ := C
  exact W.iret hx hb hr (fun t ht _ => ⟨rfl, ht⟩) (fun q h => by cases h) hdg hlocks
theorem retRz {v : Int32} (C : Cx p s m args meth c cc nL (some .boolean) own D tys) (hn : v = 0 ∨ v = 1) (hdg : decode cc pc = .ok (.ireturn, 1)) : W p l e R s m args below meth c s.heap [] 0 0 (MQ below (RdQ (.int v)) args s 0 0 nof) (F0 m pc ls [.int v]) := by
  obtain ⟨hx, hb, hr, hml, hown, ht, hlocks, hK, hN⟩ := C
  exact W.zret hx hb hr (by rcases hn with rfl | rfl <;> rfl) (fun t ht _ => ⟨rfl, ht⟩) (fun q h => by cases h) hdg hlocks
theorem retRl {v : Int64} (C : Cx p s m args meth c cc nL (some .long) own D tys) (hdg : decode cc pc = .ok (.lreturn, 1)) : W p l e R s m args below meth c s.heap [] 0 0 (MQ below (RdQ (.long v)) args s 0 0 nof) (F0 m pc ls [.long v]) := by
  obtain ⟨hx, hb, hr, hml, hown, ht, hlocks, hK, hN⟩ := C
  exact W.lret hx hb hr (fun t ht _ => ⟨rfl, ht⟩) (fun q h => by cases h) hdg hlocks
theorem retRa {v : Nat} {cn : String} (C : Cx p s m args meth c cc nL (some (.object cn)) own D tys) (hdg : decode cc pc = .ok (.areturn, 1)) : W p l e R s m args below meth c s.heap [] 0 0 (MQ below (RdQ (.ref v)) args s 0 0 nof) (F0 m pc ls [.ref v]) := by
  obtain ⟨hx, hb, hr, hml, hown, ht, hlocks, hK, hN⟩ := C
  exact W.aret hx hb hr (Or.inl ⟨_, rfl⟩) (Or.inr ⟨_, rfl⟩) (fun t ht _ => ⟨rfl, ht⟩) (fun q h => by cases h) hdg hlocks
theorem retW {v : Int32} (C : Cx p s m args meth c cc nL (some .int) own D tys) (hP : va_P D clL w H) (hS : va_S A s.heap H locs) (hdg : decode cc pc = .ok (.ireturn, 1)) : W p l e R s m args below meth c H locs 0 0 (MQ below (WrQ D w A (.int v)) args s 0 0 A) (F0 m pc ls [.int v]) := by
  obtain ⟨hx, hb, hr, hml, hown, ht, hlocks, hK, hN⟩ := C
  exact W.iret hx hb hr (fun t ht _ => ⟨rfl, by rw [ht]; exact hP, hS.F ht⟩) hS.2.2 hdg hlocks
theorem retWz {v : Int32} (C : Cx p s m args meth c cc nL (some .boolean) own D tys) (hn : v = 0 ∨ v = 1) (hP : va_P D clL w H) (hS : va_S A s.heap H locs) (hdg : decode cc pc = .ok (.ireturn, 1)) : W p l e R s m args below meth c H locs 0 0 (MQ below (WrQ D w A (.int v)) args s 0 0 A) (F0 m pc ls [.int v]) := by
  obtain ⟨hx, hb, hr, hml, hown, ht, hlocks, hK, hN⟩ := C
  exact W.zret hx hb hr (by rcases hn with rfl | rfl <;> rfl) (fun t ht _ => ⟨rfl, by rw [ht]; exact hP, hS.F ht⟩) hS.2.2 hdg hlocks
theorem retWl {v : Int64} (C : Cx p s m args meth c cc nL (some .long) own D tys) (hP : va_P D clL w H) (hS : va_S A s.heap H locs) (hdg : decode cc pc = .ok (.lreturn, 1)) : W p l e R s m args below meth c H locs 0 0 (MQ below (WrQ D w A (.long v)) args s 0 0 A) (F0 m pc ls [.long v]) := by
  obtain ⟨hx, hb, hr, hml, hown, ht, hlocks, hK, hN⟩ := C
  exact W.lret hx hb hr (fun t ht _ => ⟨rfl, by rw [ht]; exact hP, hS.F ht⟩) hS.2.2 hdg hlocks
theorem retWv (C : Cx p s m args meth c cc nL none own D tys) (hP : va_P D clL w H) (hS : va_S A s.heap H locs) (hdg : decode cc pc = .ok (.return_, 1)) : W p l e R s m args below meth c H locs 0 0 (MQ below (WvQ D w A) args s 0 0 A) (F0 m pc ls []) := by
  obtain ⟨hx, hb, hr, hml, hown, ht, hlocks, hK, hN⟩ := C
  exact W.vret hx hb hr (fun t ht _ => ⟨rfl, by rw [ht]; exact hP, hS.F ht⟩) hS.2.2 hdg hlocks
end GC
end
section
section FA
variable {p : Program} {l : Launch} {e : Env} {R : Room} {s : State} {m : MethodId} {args : Array Value} {below : List Frame} {meth : Method} {c : Code} {H : Heap} {locs : List Loc} {cells slots : Nat} {Q : State → Prop}
variable {cc : ByteArray} {nL : Nat} {rt : Option FieldType} {D : va_G} {g : Nat → ClassId} {a : Nat → Nat} {M : Mem} {pc : Nat} {ls : Array Slot} {rest : List Value} {A : Nat → Prop} {H0 : Heap}

theorem fg_X8_7 (C : Cx p s m args meth c cc nL rt RX8 D (tyL g)) (hP : va_P D clL (wC g a M) H) (hdg : decode cc pc = .ok (.getfield 7, 3)) (kk : W p l e R s m args below meth c H locs cells slots Q (F0 m (pc + 3) ls (.int (M 1 0) :: rest))) : W p l e R s m args below meth c H locs cells slots Q (F0 m pc ls (.ref (a 1) :: rest)) := by
  obtain ⟨hx, hb, hr, hml, hown, ht, hlocks, hK, hN⟩ := C
  exact va_get (D := D) (ci := 8) (C := RX8) (T := TX8) (N := 1) hx hb ht giX8 hown hK hP (1) (aC_1 g a M) rfl 0 (by decide) (ht _ wd_30) (fun _ h => h) rfl hdg kk
theorem fp_X8_7 (C : Cx p s m args meth c cc nL rt RX8 D (tyL g)) (hP : va_P D clL (wC g a M) H) (hD : va_D A (wC g a M)) (hS : va_S A H0 H locs) {v : Int32} (hdg : decode cc pc = .ok (.putfield 7, 3)) (kk : ∀ (H1 : Heap) (locs1 : List Loc), va_P D clL (wC g a (up M 1 0 v)) H1 → va_S A H0 H1 locs1 → W p l e R s m args below meth c H1 locs1 cells slots Q (F0 m (pc + 3) ls rest)) : W p l e R s m args below meth c H locs cells slots Q (F0 m pc ls (.int v :: .ref (a 1) :: rest)) := by
  obtain ⟨hx, hb, hr, hml, hown, ht, hlocks, hK, hN⟩ := C
  exact va_put (D := D) (ci := 8) (ty := .int) (C := RX8) (T := TX8) (N := 1) hx hb ht giX8 tyX8 tyX8_ok nmX8 hown hK hP hD hS (1) (aC_1 g a M) rfl 0 (by decide) (ht _ wd_30) (fun _ h => h) rfl (by decide +kernel) rfl rfl (Nat.le_of_ble_eq_true rfl) hdg (fun H1 locs1 h1 _ h3 => kk H1 locs1 (by rw [sC_1_0 g a M v] at h1; exact h1) h3)
theorem fg_X11_281 (C : Cx p s m args meth c cc nL rt RX11 D (tyL g)) (hP : va_P D clL (wC g a M) H) (hdg : decode cc pc = .ok (.getfield 281, 3)) (kk : W p l e R s m args below meth c H locs cells slots Q (F0 m (pc + 3) ls (.int (M 1 0) :: rest))) : W p l e R s m args below meth c H locs cells slots Q (F0 m pc ls (.ref (a 1) :: rest)) := by
  obtain ⟨hx, hb, hr, hml, hown, ht, hlocks, hK, hN⟩ := C
  exact va_getN (D := D) (ci := 8) (C := RX8) (T := TX8) (N := 1) hx hb ht giX8 hown hK hP (1) (aC_1 g a M) rfl 0 (by decide) (hN.f 0 rfl args) (fun _ h => h) rfl hdg kk
theorem fp_X11_281 (C : Cx p s m args meth c cc nL rt RX11 D (tyL g)) (hP : va_P D clL (wC g a M) H) (hD : va_D A (wC g a M)) (hS : va_S A H0 H locs) {v : Int32} (hdg : decode cc pc = .ok (.putfield 281, 3)) (kk : ∀ (H1 : Heap) (locs1 : List Loc), va_P D clL (wC g a (up M 1 0 v)) H1 → va_S A H0 H1 locs1 → W p l e R s m args below meth c H1 locs1 cells slots Q (F0 m (pc + 3) ls rest)) : W p l e R s m args below meth c H locs cells slots Q (F0 m pc ls (.int v :: .ref (a 1) :: rest)) := by
  obtain ⟨hx, hb, hr, hml, hown, ht, hlocks, hK, hN⟩ := C
  exact va_putN (D := D) (ci := 8) (ty := .int) (C := RX8) (T := TX8) (N := 1) hx hb ht giX8 tyX8 tyX8_ok nmX8 hown hK hP hD hS (1) (aC_1 g a M) rfl 0 (by decide) (hN.f 0 rfl args) (fun _ h => h) rfl (by decide +kernel) rfl rfl (Nat.le_of_ble_eq_true rfl) hdg (fun H1 locs1 h1 _ h3 => kk H1 locs1 (by rw [sC_1_0 g a M v] at h1; exact h1) h3)
theorem fg_X3_18 (C : Cx p s m args meth c cc nL rt RX3 D (tyL g)) (hP : va_P D clL (wC g a M) H) (hdg : decode cc pc = .ok (.getfield 18, 3)) (kk : W p l e R s m args below meth c H locs cells slots Q (F0 m (pc + 3) ls (.ref (a 17) :: rest))) : W p l e R s m args below meth c H locs cells slots Q (F0 m pc ls (.ref (a 2) :: rest)) := by
  obtain ⟨hx, hb, hr, hml, hown, ht, hlocks, hK, hN⟩ := C
  exact va_get (D := D) (ci := 3) (C := RX3) (T := TX3) (N := 10) hx hb ht giX3 hown hK hP (2) (aC_2 g a M) rfl 0 (by decide) (ht _ wd_63) (fun _ h => h) rfl hdg kk
theorem fg_X3_24 (C : Cx p s m args meth c cc nL rt RX3 D (tyL g)) (hP : va_P D clL (wC g a M) H) (hdg : decode cc pc = .ok (.getfield 24, 3)) (kk : W p l e R s m args below meth c H locs cells slots Q (F0 m (pc + 3) ls (.ref (a 21) :: rest))) : W p l e R s m args below meth c H locs cells slots Q (F0 m pc ls (.ref (a 2) :: rest)) := by
  obtain ⟨hx, hb, hr, hml, hown, ht, hlocks, hK, hN⟩ := C
  exact va_get (D := D) (ci := 3) (C := RX3) (T := TX3) (N := 10) hx hb ht giX3 hown hK hP (2) (aC_2 g a M) rfl 1 (by decide) (ht _ wd_64) (fun _ h => h) rfl hdg kk
theorem fg_X11_109 (C : Cx p s m args meth c cc nL rt RX11 D (tyL g)) (hP : va_P D clL (wC g a M) H) (hdg : decode cc pc = .ok (.getfield 109, 3)) (kk : W p l e R s m args below meth c H locs cells slots Q (F0 m (pc + 3) ls (.ref (a 21) :: rest))) : W p l e R s m args below meth c H locs cells slots Q (F0 m pc ls (.ref (a 2) :: rest)) := by
  obtain ⟨hx, hb, hr, hml, hown, ht, hlocks, hK, hN⟩ := C
  exact va_getN (D := D) (ci := 3) (C := RX3) (T := TX3) (N := 10) hx hb ht giX3 hown hK hP (2) (aC_2 g a M) rfl 1 (by decide) (hN.f 1 rfl args) (fun _ h => h) rfl hdg kk
theorem fg_X3_28 (C : Cx p s m args meth c cc nL rt RX3 D (tyL g)) (hP : va_P D clL (wC g a M) H) (hdg : decode cc pc = .ok (.getfield 28, 3)) (kk : W p l e R s m args below meth c H locs cells slots Q (F0 m (pc + 3) ls (.ref (a 22) :: rest))) : W p l e R s m args below meth c H locs cells slots Q (F0 m pc ls (.ref (a 2) :: rest)) := by
  obtain ⟨hx, hb, hr, hml, hown, ht, hlocks, hK, hN⟩ := C
  exact va_get (D := D) (ci := 3) (C := RX3) (T := TX3) (N := 10) hx hb ht giX3 hown hK hP (2) (aC_2 g a M) rfl 2 (by decide) (ht _ wd_66) (fun _ h => h) rfl hdg kk
theorem fg_X11_113 (C : Cx p s m args meth c cc nL rt RX11 D (tyL g)) (hP : va_P D clL (wC g a M) H) (hdg : decode cc pc = .ok (.getfield 113, 3)) (kk : W p l e R s m args below meth c H locs cells slots Q (F0 m (pc + 3) ls (.ref (a 22) :: rest))) : W p l e R s m args below meth c H locs cells slots Q (F0 m pc ls (.ref (a 2) :: rest)) := by
  obtain ⟨hx, hb, hr, hml, hown, ht, hlocks, hK, hN⟩ := C
  exact va_getN (D := D) (ci := 3) (C := RX3) (T := TX3) (N := 10) hx hb ht giX3 hown hK hP (2) (aC_2 g a M) rfl 2 (by decide) (hN.f 2 rfl args) (fun _ h => h) rfl hdg kk
theorem fg_X3_31 (C : Cx p s m args meth c cc nL rt RX3 D (tyL g)) (hP : va_P D clL (wC g a M) H) (hdg : decode cc pc = .ok (.getfield 31, 3)) (kk : W p l e R s m args below meth c H locs cells slots Q (F0 m (pc + 3) ls (.ref (a 23) :: rest))) : W p l e R s m args below meth c H locs cells slots Q (F0 m pc ls (.ref (a 2) :: rest)) := by
  obtain ⟨hx, hb, hr, hml, hown, ht, hlocks, hK, hN⟩ := C
  exact va_get (D := D) (ci := 3) (C := RX3) (T := TX3) (N := 10) hx hb ht giX3 hown hK hP (2) (aC_2 g a M) rfl 3 (by decide) (ht _ wd_68) (fun _ h => h) rfl hdg kk
theorem fg_X11_116 (C : Cx p s m args meth c cc nL rt RX11 D (tyL g)) (hP : va_P D clL (wC g a M) H) (hdg : decode cc pc = .ok (.getfield 116, 3)) (kk : W p l e R s m args below meth c H locs cells slots Q (F0 m (pc + 3) ls (.ref (a 23) :: rest))) : W p l e R s m args below meth c H locs cells slots Q (F0 m pc ls (.ref (a 2) :: rest)) := by
  obtain ⟨hx, hb, hr, hml, hown, ht, hlocks, hK, hN⟩ := C
  exact va_getN (D := D) (ci := 3) (C := RX3) (T := TX3) (N := 10) hx hb ht giX3 hown hK hP (2) (aC_2 g a M) rfl 3 (by decide) (hN.f 3 rfl args) (fun _ h => h) rfl hdg kk
theorem fg_X3_34 (C : Cx p s m args meth c cc nL rt RX3 D (tyL g)) (hP : va_P D clL (wC g a M) H) (hdg : decode cc pc = .ok (.getfield 34, 3)) (kk : W p l e R s m args below meth c H locs cells slots Q (F0 m (pc + 3) ls (.ref (a 24) :: rest))) : W p l e R s m args below meth c H locs cells slots Q (F0 m pc ls (.ref (a 2) :: rest)) := by
  obtain ⟨hx, hb, hr, hml, hown, ht, hlocks, hK, hN⟩ := C
  exact va_get (D := D) (ci := 3) (C := RX3) (T := TX3) (N := 10) hx hb ht giX3 hown hK hP (2) (aC_2 g a M) rfl 4 (by decide) (ht _ wd_70) (fun _ h => h) rfl hdg kk
theorem fg_X4_67 (C : Cx p s m args meth c cc nL rt RX4 D (tyL g)) (hP : va_P D clL (wC g a M) H) (hdg : decode cc pc = .ok (.getfield 67, 3)) (kk : W p l e R s m args below meth c H locs cells slots Q (F0 m (pc + 3) ls (.ref (a 24) :: rest))) : W p l e R s m args below meth c H locs cells slots Q (F0 m pc ls (.ref (a 2) :: rest)) := by
  obtain ⟨hx, hb, hr, hml, hown, ht, hlocks, hK, hN⟩ := C
  exact va_getN (D := D) (ci := 3) (C := RX3) (T := TX3) (N := 10) hx hb ht giX3 hown hK hP (2) (aC_2 g a M) rfl 4 (by decide) (hN.f 4 rfl args) (fun _ h => h) rfl hdg kk
theorem fg_X3_37 (C : Cx p s m args meth c cc nL rt RX3 D (tyL g)) (hP : va_P D clL (wC g a M) H) (hdg : decode cc pc = .ok (.getfield 37, 3)) (kk : W p l e R s m args below meth c H locs cells slots Q (F0 m (pc + 3) ls (.ref (a 25) :: rest))) : W p l e R s m args below meth c H locs cells slots Q (F0 m pc ls (.ref (a 2) :: rest)) := by
  obtain ⟨hx, hb, hr, hml, hown, ht, hlocks, hK, hN⟩ := C
  exact va_get (D := D) (ci := 3) (C := RX3) (T := TX3) (N := 10) hx hb ht giX3 hown hK hP (2) (aC_2 g a M) rfl 5 (by decide) (ht _ wd_72) (fun _ h => h) rfl hdg kk
theorem fg_X4_73 (C : Cx p s m args meth c cc nL rt RX4 D (tyL g)) (hP : va_P D clL (wC g a M) H) (hdg : decode cc pc = .ok (.getfield 73, 3)) (kk : W p l e R s m args below meth c H locs cells slots Q (F0 m (pc + 3) ls (.ref (a 25) :: rest))) : W p l e R s m args below meth c H locs cells slots Q (F0 m pc ls (.ref (a 2) :: rest)) := by
  obtain ⟨hx, hb, hr, hml, hown, ht, hlocks, hK, hN⟩ := C
  exact va_getN (D := D) (ci := 3) (C := RX3) (T := TX3) (N := 10) hx hb ht giX3 hown hK hP (2) (aC_2 g a M) rfl 5 (by decide) (hN.f 5 rfl args) (fun _ h => h) rfl hdg kk
theorem fg_X3_40 (C : Cx p s m args meth c cc nL rt RX3 D (tyL g)) (hP : va_P D clL (wC g a M) H) (hdg : decode cc pc = .ok (.getfield 40, 3)) (kk : W p l e R s m args below meth c H locs cells slots Q (F0 m (pc + 3) ls (.ref (a 26) :: rest))) : W p l e R s m args below meth c H locs cells slots Q (F0 m pc ls (.ref (a 2) :: rest)) := by
  obtain ⟨hx, hb, hr, hml, hown, ht, hlocks, hK, hN⟩ := C
  exact va_get (D := D) (ci := 3) (C := RX3) (T := TX3) (N := 10) hx hb ht giX3 hown hK hP (2) (aC_2 g a M) rfl 6 (by decide) (ht _ wd_74) (fun _ h => h) rfl hdg kk
theorem fg_X11_130 (C : Cx p s m args meth c cc nL rt RX11 D (tyL g)) (hP : va_P D clL (wC g a M) H) (hdg : decode cc pc = .ok (.getfield 130, 3)) (kk : W p l e R s m args below meth c H locs cells slots Q (F0 m (pc + 3) ls (.ref (a 26) :: rest))) : W p l e R s m args below meth c H locs cells slots Q (F0 m pc ls (.ref (a 2) :: rest)) := by
  obtain ⟨hx, hb, hr, hml, hown, ht, hlocks, hK, hN⟩ := C
  exact va_getN (D := D) (ci := 3) (C := RX3) (T := TX3) (N := 10) hx hb ht giX3 hown hK hP (2) (aC_2 g a M) rfl 6 (by decide) (hN.f 6 rfl args) (fun _ h => h) rfl hdg kk
theorem fg_X3_43 (C : Cx p s m args meth c cc nL rt RX3 D (tyL g)) (hP : va_P D clL (wC g a M) H) (hdg : decode cc pc = .ok (.getfield 43, 3)) (kk : W p l e R s m args below meth c H locs cells slots Q (F0 m (pc + 3) ls (.ref (a 27) :: rest))) : W p l e R s m args below meth c H locs cells slots Q (F0 m pc ls (.ref (a 2) :: rest)) := by
  obtain ⟨hx, hb, hr, hml, hown, ht, hlocks, hK, hN⟩ := C
  exact va_get (D := D) (ci := 3) (C := RX3) (T := TX3) (N := 10) hx hb ht giX3 hown hK hP (2) (aC_2 g a M) rfl 7 (by decide) (ht _ wd_76) (fun _ h => h) rfl hdg kk
theorem fg_X11_133 (C : Cx p s m args meth c cc nL rt RX11 D (tyL g)) (hP : va_P D clL (wC g a M) H) (hdg : decode cc pc = .ok (.getfield 133, 3)) (kk : W p l e R s m args below meth c H locs cells slots Q (F0 m (pc + 3) ls (.ref (a 27) :: rest))) : W p l e R s m args below meth c H locs cells slots Q (F0 m pc ls (.ref (a 2) :: rest)) := by
  obtain ⟨hx, hb, hr, hml, hown, ht, hlocks, hK, hN⟩ := C
  exact va_getN (D := D) (ci := 3) (C := RX3) (T := TX3) (N := 10) hx hb ht giX3 hown hK hP (2) (aC_2 g a M) rfl 7 (by decide) (hN.f 7 rfl args) (fun _ h => h) rfl hdg kk
theorem fg_X3_69 (C : Cx p s m args meth c cc nL rt RX3 D (tyL g)) (hP : va_P D clL (wC g a M) H) (hdg : decode cc pc = .ok (.getfield 69, 3)) (kk : W p l e R s m args below meth c H locs cells slots Q (F0 m (pc + 3) ls (.int (M 2 8) :: rest))) : W p l e R s m args below meth c H locs cells slots Q (F0 m pc ls (.ref (a 2) :: rest)) := by
  obtain ⟨hx, hb, hr, hml, hown, ht, hlocks, hK, hN⟩ := C
  exact va_get (D := D) (ci := 3) (C := RX3) (T := TX3) (N := 10) hx hb ht giX3 hown hK hP (2) (aC_2 g a M) rfl 8 (by decide) (ht _ wd_78) (fun _ h => h) rfl hdg kk
theorem fp_X3_69 (C : Cx p s m args meth c cc nL rt RX3 D (tyL g)) (hP : va_P D clL (wC g a M) H) (hD : va_D A (wC g a M)) (hS : va_S A H0 H locs) {v : Int32} (hdg : decode cc pc = .ok (.putfield 69, 3)) (kk : ∀ (H1 : Heap) (locs1 : List Loc), va_P D clL (wC g a (up M 2 8 v)) H1 → va_S A H0 H1 locs1 → W p l e R s m args below meth c H1 locs1 cells slots Q (F0 m (pc + 3) ls rest)) : W p l e R s m args below meth c H locs cells slots Q (F0 m pc ls (.int v :: .ref (a 2) :: rest)) := by
  obtain ⟨hx, hb, hr, hml, hown, ht, hlocks, hK, hN⟩ := C
  exact va_put (D := D) (ci := 3) (ty := .int) (C := RX3) (T := TX3) (N := 10) hx hb ht giX3 tyX3 tyX3_ok nmX3 hown hK hP hD hS (2) (aC_2 g a M) rfl 8 (by decide) (ht _ wd_78) (fun _ h => h) rfl (by decide +kernel) rfl rfl (Nat.le_of_ble_eq_true rfl) hdg (fun H1 locs1 h1 _ h3 => kk H1 locs1 (by rw [sC_2_8 g a M v] at h1; exact h1) h3)
theorem fg_X4_28 (C : Cx p s m args meth c cc nL rt RX4 D (tyL g)) (hP : va_P D clL (wC g a M) H) (hdg : decode cc pc = .ok (.getfield 28, 3)) (kk : W p l e R s m args below meth c H locs cells slots Q (F0 m (pc + 3) ls (.int (M 2 9) :: rest))) : W p l e R s m args below meth c H locs cells slots Q (F0 m pc ls (.ref (a 2) :: rest)) := by
  obtain ⟨hx, hb, hr, hml, hown, ht, hlocks, hK, hN⟩ := C
  exact va_getN (D := D) (ci := 3) (C := RX3) (T := TX3) (N := 10) hx hb ht giX3 hown hK hP (2) (aC_2 g a M) rfl 9 (by decide) (hN.f 8 rfl args) (fun _ h => h) rfl hdg kk
theorem fp_X4_28 (C : Cx p s m args meth c cc nL rt RX4 D (tyL g)) (hP : va_P D clL (wC g a M) H) (hD : va_D A (wC g a M)) (hS : va_S A H0 H locs) {v : Int32} (hdg : decode cc pc = .ok (.putfield 28, 3)) (kk : ∀ (H1 : Heap) (locs1 : List Loc), va_P D clL (wC g a (up M 2 9 v)) H1 → va_S A H0 H1 locs1 → W p l e R s m args below meth c H1 locs1 cells slots Q (F0 m (pc + 3) ls rest)) : W p l e R s m args below meth c H locs cells slots Q (F0 m pc ls (.int v :: .ref (a 2) :: rest)) := by
  obtain ⟨hx, hb, hr, hml, hown, ht, hlocks, hK, hN⟩ := C
  exact va_putN (D := D) (ci := 3) (ty := .int) (C := RX3) (T := TX3) (N := 10) hx hb ht giX3 tyX3 tyX3_ok nmX3 hown hK hP hD hS (2) (aC_2 g a M) rfl 9 (by decide) (hN.f 8 rfl args) (fun _ h => h) rfl (by decide +kernel) rfl rfl (Nat.le_of_ble_eq_true rfl) hdg (fun H1 locs1 h1 _ h3 => kk H1 locs1 (by rw [sC_2_9 g a M v] at h1; exact h1) h3)
theorem fg_X3_73 (C : Cx p s m args meth c cc nL rt RX3 D (tyL g)) (hP : va_P D clL (wC g a M) H) (hdg : decode cc pc = .ok (.getfield 73, 3)) (kk : W p l e R s m args below meth c H locs cells slots Q (F0 m (pc + 3) ls (.int (M 2 9) :: rest))) : W p l e R s m args below meth c H locs cells slots Q (F0 m pc ls (.ref (a 2) :: rest)) := by
  obtain ⟨hx, hb, hr, hml, hown, ht, hlocks, hK, hN⟩ := C
  exact va_get (D := D) (ci := 3) (C := RX3) (T := TX3) (N := 10) hx hb ht giX3 hown hK hP (2) (aC_2 g a M) rfl 9 (by decide) (ht _ wd_80) (fun _ h => h) rfl hdg kk
theorem fp_X3_73 (C : Cx p s m args meth c cc nL rt RX3 D (tyL g)) (hP : va_P D clL (wC g a M) H) (hD : va_D A (wC g a M)) (hS : va_S A H0 H locs) {v : Int32} (hdg : decode cc pc = .ok (.putfield 73, 3)) (kk : ∀ (H1 : Heap) (locs1 : List Loc), va_P D clL (wC g a (up M 2 9 v)) H1 → va_S A H0 H1 locs1 → W p l e R s m args below meth c H1 locs1 cells slots Q (F0 m (pc + 3) ls rest)) : W p l e R s m args below meth c H locs cells slots Q (F0 m pc ls (.int v :: .ref (a 2) :: rest)) := by
  obtain ⟨hx, hb, hr, hml, hown, ht, hlocks, hK, hN⟩ := C
  exact va_put (D := D) (ci := 3) (ty := .int) (C := RX3) (T := TX3) (N := 10) hx hb ht giX3 tyX3 tyX3_ok nmX3 hown hK hP hD hS (2) (aC_2 g a M) rfl 9 (by decide) (ht _ wd_80) (fun _ h => h) rfl (by decide +kernel) rfl rfl (Nat.le_of_ble_eq_true rfl) hdg (fun H1 locs1 h1 _ h3 => kk H1 locs1 (by rw [sC_2_9 g a M v] at h1; exact h1) h3)
theorem fg_X11_284 (C : Cx p s m args meth c cc nL rt RX11 D (tyL g)) (hP : va_P D clL (wC g a M) H) (hdg : decode cc pc = .ok (.getfield 284, 3)) (kk : W p l e R s m args below meth c H locs cells slots Q (F0 m (pc + 3) ls (.int (M 2 9) :: rest))) : W p l e R s m args below meth c H locs cells slots Q (F0 m pc ls (.ref (a 2) :: rest)) := by
  obtain ⟨hx, hb, hr, hml, hown, ht, hlocks, hK, hN⟩ := C
  exact va_getN (D := D) (ci := 3) (C := RX3) (T := TX3) (N := 10) hx hb ht giX3 hown hK hP (2) (aC_2 g a M) rfl 9 (by decide) (hN.f 9 rfl args) (fun _ h => h) rfl hdg kk
theorem fp_X11_284 (C : Cx p s m args meth c cc nL rt RX11 D (tyL g)) (hP : va_P D clL (wC g a M) H) (hD : va_D A (wC g a M)) (hS : va_S A H0 H locs) {v : Int32} (hdg : decode cc pc = .ok (.putfield 284, 3)) (kk : ∀ (H1 : Heap) (locs1 : List Loc), va_P D clL (wC g a (up M 2 9 v)) H1 → va_S A H0 H1 locs1 → W p l e R s m args below meth c H1 locs1 cells slots Q (F0 m (pc + 3) ls rest)) : W p l e R s m args below meth c H locs cells slots Q (F0 m pc ls (.int v :: .ref (a 2) :: rest)) := by
  obtain ⟨hx, hb, hr, hml, hown, ht, hlocks, hK, hN⟩ := C
  exact va_putN (D := D) (ci := 3) (ty := .int) (C := RX3) (T := TX3) (N := 10) hx hb ht giX3 tyX3 tyX3_ok nmX3 hown hK hP hD hS (2) (aC_2 g a M) rfl 9 (by decide) (hN.f 9 rfl args) (fun _ h => h) rfl (by decide +kernel) rfl rfl (Nat.le_of_ble_eq_true rfl) hdg (fun H1 locs1 h1 _ h3 => kk H1 locs1 (by rw [sC_2_9 g a M v] at h1; exact h1) h3)
theorem fg_X10_27 (C : Cx p s m args meth c cc nL rt RX10 D (tyL g)) (hP : va_P D clL (wC g a M) H) (hdg : decode cc pc = .ok (.getfield 27, 3)) (kk : W p l e R s m args below meth c H locs cells slots Q (F0 m (pc + 3) ls (.ref (a 2) :: rest))) : W p l e R s m args below meth c H locs cells slots Q (F0 m pc ls (.ref (a 3) :: rest)) := by
  obtain ⟨hx, hb, hr, hml, hown, ht, hlocks, hK, hN⟩ := C
  exact va_get (D := D) (ci := 10) (C := RX10) (T := TX10) (N := 6) hx hb ht giX10 hown hK hP (3) (aC_3 g a M) rfl 0 (by decide) (ht _ wd_110) (fun _ h => h) rfl hdg kk
theorem fg_X10_9 (C : Cx p s m args meth c cc nL rt RX10 D (tyL g)) (hP : va_P D clL (wC g a M) H) (hdg : decode cc pc = .ok (.getfield 9, 3)) (kk : W p l e R s m args below meth c H locs cells slots Q (F0 m (pc + 3) ls (.ref (a 28) :: rest))) : W p l e R s m args below meth c H locs cells slots Q (F0 m pc ls (.ref (a 3) :: rest)) := by
  obtain ⟨hx, hb, hr, hml, hown, ht, hlocks, hK, hN⟩ := C
  exact va_get (D := D) (ci := 10) (C := RX10) (T := TX10) (N := 6) hx hb ht giX10 hown hK hP (3) (aC_3 g a M) rfl 1 (by decide) (ht _ wd_111) (fun _ h => h) rfl hdg kk
theorem fg_X10_15 (C : Cx p s m args meth c cc nL rt RX10 D (tyL g)) (hP : va_P D clL (wC g a M) H) (hdg : decode cc pc = .ok (.getfield 15, 3)) (kk : W p l e R s m args below meth c H locs cells slots Q (F0 m (pc + 3) ls (.ref (a 29) :: rest))) : W p l e R s m args below meth c H locs cells slots Q (F0 m pc ls (.ref (a 3) :: rest)) := by
  obtain ⟨hx, hb, hr, hml, hown, ht, hlocks, hK, hN⟩ := C
  exact va_get (D := D) (ci := 10) (C := RX10) (T := TX10) (N := 6) hx hb ht giX10 hown hK hP (3) (aC_3 g a M) rfl 2 (by decide) (ht _ wd_112) (fun _ h => h) rfl hdg kk
theorem fg_X10_18 (C : Cx p s m args meth c cc nL rt RX10 D (tyL g)) (hP : va_P D clL (wC g a M) H) (hdg : decode cc pc = .ok (.getfield 18, 3)) (kk : W p l e R s m args below meth c H locs cells slots Q (F0 m (pc + 3) ls (.ref (a 30) :: rest))) : W p l e R s m args below meth c H locs cells slots Q (F0 m pc ls (.ref (a 3) :: rest)) := by
  obtain ⟨hx, hb, hr, hml, hown, ht, hlocks, hK, hN⟩ := C
  exact va_get (D := D) (ci := 10) (C := RX10) (T := TX10) (N := 6) hx hb ht giX10 hown hK hP (3) (aC_3 g a M) rfl 3 (by decide) (ht _ wd_113) (fun _ h => h) rfl hdg kk
theorem fg_X10_21 (C : Cx p s m args meth c cc nL rt RX10 D (tyL g)) (hP : va_P D clL (wC g a M) H) (hdg : decode cc pc = .ok (.getfield 21, 3)) (kk : W p l e R s m args below meth c H locs cells slots Q (F0 m (pc + 3) ls (.ref (a 31) :: rest))) : W p l e R s m args below meth c H locs cells slots Q (F0 m pc ls (.ref (a 3) :: rest)) := by
  obtain ⟨hx, hb, hr, hml, hown, ht, hlocks, hK, hN⟩ := C
  exact va_get (D := D) (ci := 10) (C := RX10) (T := TX10) (N := 6) hx hb ht giX10 hown hK hP (3) (aC_3 g a M) rfl 4 (by decide) (ht _ wd_114) (fun _ h => h) rfl hdg kk
theorem fg_X11_156 (C : Cx p s m args meth c cc nL rt RX11 D (tyL g)) (hP : va_P D clL (wC g a M) H) (hdg : decode cc pc = .ok (.getfield 156, 3)) (kk : W p l e R s m args below meth c H locs cells slots Q (F0 m (pc + 3) ls (.ref (a 31) :: rest))) : W p l e R s m args below meth c H locs cells slots Q (F0 m pc ls (.ref (a 3) :: rest)) := by
  obtain ⟨hx, hb, hr, hml, hown, ht, hlocks, hK, hN⟩ := C
  exact va_getN (D := D) (ci := 10) (C := RX10) (T := TX10) (N := 6) hx hb ht giX10 hown hK hP (3) (aC_3 g a M) rfl 4 (by decide) (hN.f 10 rfl args) (fun _ h => h) rfl hdg kk
theorem fg_X10_24 (C : Cx p s m args meth c cc nL rt RX10 D (tyL g)) (hP : va_P D clL (wC g a M) H) (hdg : decode cc pc = .ok (.getfield 24, 3)) (kk : W p l e R s m args below meth c H locs cells slots Q (F0 m (pc + 3) ls (.ref (a 32) :: rest))) : W p l e R s m args below meth c H locs cells slots Q (F0 m pc ls (.ref (a 3) :: rest)) := by
  obtain ⟨hx, hb, hr, hml, hown, ht, hlocks, hK, hN⟩ := C
  exact va_get (D := D) (ci := 10) (C := RX10) (T := TX10) (N := 6) hx hb ht giX10 hown hK hP (3) (aC_3 g a M) rfl 5 (by decide) (ht _ wd_116) (fun _ h => h) rfl hdg kk
theorem fg_X4_18 (C : Cx p s m args meth c cc nL rt RX4 D (tyL g)) (hP : va_P D clL (wC g a M) H) (hdg : decode cc pc = .ok (.getfield 18, 3)) (kk : W p l e R s m args below meth c H locs cells slots Q (F0 m (pc + 3) ls (.ref (a 2) :: rest))) : W p l e R s m args below meth c H locs cells slots Q (F0 m pc ls (.ref (a 4) :: rest)) := by
  obtain ⟨hx, hb, hr, hml, hown, ht, hlocks, hK, hN⟩ := C
  exact va_get (D := D) (ci := 4) (C := RX4) (T := TX4) (N := 6) hx hb ht giX4 hown hK hP (4) (aC_4 g a M) rfl 0 (by decide) (ht _ wd_136) (fun _ h => h) rfl hdg kk
theorem fg_X4_9 (C : Cx p s m args meth c cc nL rt RX4 D (tyL g)) (hP : va_P D clL (wC g a M) H) (hdg : decode cc pc = .ok (.getfield 9, 3)) (kk : W p l e R s m args below meth c H locs cells slots Q (F0 m (pc + 3) ls (.ref (a 33) :: rest))) : W p l e R s m args below meth c H locs cells slots Q (F0 m pc ls (.ref (a 4) :: rest)) := by
  obtain ⟨hx, hb, hr, hml, hown, ht, hlocks, hK, hN⟩ := C
  exact va_get (D := D) (ci := 4) (C := RX4) (T := TX4) (N := 6) hx hb ht giX4 hown hK hP (4) (aC_4 g a M) rfl 1 (by decide) (ht _ wd_137) (fun _ h => h) rfl hdg kk
theorem fg_X4_15 (C : Cx p s m args meth c cc nL rt RX4 D (tyL g)) (hP : va_P D clL (wC g a M) H) (hdg : decode cc pc = .ok (.getfield 15, 3)) (kk : W p l e R s m args below meth c H locs cells slots Q (F0 m (pc + 3) ls (.ref (a 34) :: rest))) : W p l e R s m args below meth c H locs cells slots Q (F0 m pc ls (.ref (a 4) :: rest)) := by
  obtain ⟨hx, hb, hr, hml, hown, ht, hlocks, hK, hN⟩ := C
  exact va_get (D := D) (ci := 4) (C := RX4) (T := TX4) (N := 6) hx hb ht giX4 hown hK hP (4) (aC_4 g a M) rfl 2 (by decide) (ht _ wd_138) (fun _ h => h) rfl hdg kk
theorem fg_X4_50 (C : Cx p s m args meth c cc nL rt RX4 D (tyL g)) (hP : va_P D clL (wC g a M) H) (hdg : decode cc pc = .ok (.getfield 50, 3)) (kk : W p l e R s m args below meth c H locs cells slots Q (F0 m (pc + 3) ls (.int (M 4 3) :: rest))) : W p l e R s m args below meth c H locs cells slots Q (F0 m pc ls (.ref (a 4) :: rest)) := by
  obtain ⟨hx, hb, hr, hml, hown, ht, hlocks, hK, hN⟩ := C
  exact va_get (D := D) (ci := 4) (C := RX4) (T := TX4) (N := 6) hx hb ht giX4 hown hK hP (4) (aC_4 g a M) rfl 3 (by decide) (ht _ wd_139) (fun _ h => h) rfl hdg kk
theorem fp_X4_50 (C : Cx p s m args meth c cc nL rt RX4 D (tyL g)) (hP : va_P D clL (wC g a M) H) (hD : va_D A (wC g a M)) (hS : va_S A H0 H locs) {v : Int32} (hdg : decode cc pc = .ok (.putfield 50, 3)) (kk : ∀ (H1 : Heap) (locs1 : List Loc), va_P D clL (wC g a (up M 4 3 v)) H1 → va_S A H0 H1 locs1 → W p l e R s m args below meth c H1 locs1 cells slots Q (F0 m (pc + 3) ls rest)) : W p l e R s m args below meth c H locs cells slots Q (F0 m pc ls (.int v :: .ref (a 4) :: rest)) := by
  obtain ⟨hx, hb, hr, hml, hown, ht, hlocks, hK, hN⟩ := C
  exact va_put (D := D) (ci := 4) (ty := .int) (C := RX4) (T := TX4) (N := 6) hx hb ht giX4 tyX4 tyX4_ok nmX4 hown hK hP hD hS (4) (aC_4 g a M) rfl 3 (by decide) (ht _ wd_139) (fun _ h => h) rfl (by decide +kernel) rfl rfl (Nat.le_of_ble_eq_true rfl) hdg (fun H1 locs1 h1 _ h3 => kk H1 locs1 (by rw [sC_4_3 g a M v] at h1; exact h1) h3)
theorem fg_X11_188 (C : Cx p s m args meth c cc nL rt RX11 D (tyL g)) (hP : va_P D clL (wC g a M) H) (hdg : decode cc pc = .ok (.getfield 188, 3)) (kk : W p l e R s m args below meth c H locs cells slots Q (F0 m (pc + 3) ls (.int (M 4 3) :: rest))) : W p l e R s m args below meth c H locs cells slots Q (F0 m pc ls (.ref (a 4) :: rest)) := by
  obtain ⟨hx, hb, hr, hml, hown, ht, hlocks, hK, hN⟩ := C
  exact va_getN (D := D) (ci := 4) (C := RX4) (T := TX4) (N := 6) hx hb ht giX4 hown hK hP (4) (aC_4 g a M) rfl 3 (by decide) (hN.f 11 rfl args) (fun _ h => h) rfl hdg kk
theorem fp_X11_188 (C : Cx p s m args meth c cc nL rt RX11 D (tyL g)) (hP : va_P D clL (wC g a M) H) (hD : va_D A (wC g a M)) (hS : va_S A H0 H locs) {v : Int32} (hdg : decode cc pc = .ok (.putfield 188, 3)) (kk : ∀ (H1 : Heap) (locs1 : List Loc), va_P D clL (wC g a (up M 4 3 v)) H1 → va_S A H0 H1 locs1 → W p l e R s m args below meth c H1 locs1 cells slots Q (F0 m (pc + 3) ls rest)) : W p l e R s m args below meth c H locs cells slots Q (F0 m pc ls (.int v :: .ref (a 4) :: rest)) := by
  obtain ⟨hx, hb, hr, hml, hown, ht, hlocks, hK, hN⟩ := C
  exact va_putN (D := D) (ci := 4) (ty := .int) (C := RX4) (T := TX4) (N := 6) hx hb ht giX4 tyX4 tyX4_ok nmX4 hown hK hP hD hS (4) (aC_4 g a M) rfl 3 (by decide) (hN.f 11 rfl args) (fun _ h => h) rfl (by decide +kernel) rfl rfl (Nat.le_of_ble_eq_true rfl) hdg (fun H1 locs1 h1 _ h3 => kk H1 locs1 (by rw [sC_4_3 g a M v] at h1; exact h1) h3)
theorem fg_X4_53 (C : Cx p s m args meth c cc nL rt RX4 D (tyL g)) (hP : va_P D clL (wC g a M) H) (hdg : decode cc pc = .ok (.getfield 53, 3)) (kk : W p l e R s m args below meth c H locs cells slots Q (F0 m (pc + 3) ls (.int (M 4 4) :: rest))) : W p l e R s m args below meth c H locs cells slots Q (F0 m pc ls (.ref (a 4) :: rest)) := by
  obtain ⟨hx, hb, hr, hml, hown, ht, hlocks, hK, hN⟩ := C
  exact va_get (D := D) (ci := 4) (C := RX4) (T := TX4) (N := 6) hx hb ht giX4 hown hK hP (4) (aC_4 g a M) rfl 4 (by decide) (ht _ wd_141) (fun _ h => h) rfl hdg kk
theorem fp_X4_53 (C : Cx p s m args meth c cc nL rt RX4 D (tyL g)) (hP : va_P D clL (wC g a M) H) (hD : va_D A (wC g a M)) (hS : va_S A H0 H locs) {v : Int32} (hdg : decode cc pc = .ok (.putfield 53, 3)) (kk : ∀ (H1 : Heap) (locs1 : List Loc), va_P D clL (wC g a (up M 4 4 v)) H1 → va_S A H0 H1 locs1 → W p l e R s m args below meth c H1 locs1 cells slots Q (F0 m (pc + 3) ls rest)) : W p l e R s m args below meth c H locs cells slots Q (F0 m pc ls (.int v :: .ref (a 4) :: rest)) := by
  obtain ⟨hx, hb, hr, hml, hown, ht, hlocks, hK, hN⟩ := C
  exact va_put (D := D) (ci := 4) (ty := .int) (C := RX4) (T := TX4) (N := 6) hx hb ht giX4 tyX4 tyX4_ok nmX4 hown hK hP hD hS (4) (aC_4 g a M) rfl 4 (by decide) (ht _ wd_141) (fun _ h => h) rfl (by decide +kernel) rfl rfl (Nat.le_of_ble_eq_true rfl) hdg (fun H1 locs1 h1 _ h3 => kk H1 locs1 (by rw [sC_4_4 g a M v] at h1; exact h1) h3)
theorem fg_X11_191 (C : Cx p s m args meth c cc nL rt RX11 D (tyL g)) (hP : va_P D clL (wC g a M) H) (hdg : decode cc pc = .ok (.getfield 191, 3)) (kk : W p l e R s m args below meth c H locs cells slots Q (F0 m (pc + 3) ls (.int (M 4 4) :: rest))) : W p l e R s m args below meth c H locs cells slots Q (F0 m pc ls (.ref (a 4) :: rest)) := by
  obtain ⟨hx, hb, hr, hml, hown, ht, hlocks, hK, hN⟩ := C
  exact va_getN (D := D) (ci := 4) (C := RX4) (T := TX4) (N := 6) hx hb ht giX4 hown hK hP (4) (aC_4 g a M) rfl 4 (by decide) (hN.f 12 rfl args) (fun _ h => h) rfl hdg kk
theorem fp_X11_191 (C : Cx p s m args meth c cc nL rt RX11 D (tyL g)) (hP : va_P D clL (wC g a M) H) (hD : va_D A (wC g a M)) (hS : va_S A H0 H locs) {v : Int32} (hdg : decode cc pc = .ok (.putfield 191, 3)) (kk : ∀ (H1 : Heap) (locs1 : List Loc), va_P D clL (wC g a (up M 4 4 v)) H1 → va_S A H0 H1 locs1 → W p l e R s m args below meth c H1 locs1 cells slots Q (F0 m (pc + 3) ls rest)) : W p l e R s m args below meth c H locs cells slots Q (F0 m pc ls (.int v :: .ref (a 4) :: rest)) := by
  obtain ⟨hx, hb, hr, hml, hown, ht, hlocks, hK, hN⟩ := C
  exact va_putN (D := D) (ci := 4) (ty := .int) (C := RX4) (T := TX4) (N := 6) hx hb ht giX4 tyX4 tyX4_ok nmX4 hown hK hP hD hS (4) (aC_4 g a M) rfl 4 (by decide) (hN.f 12 rfl args) (fun _ h => h) rfl (by decide +kernel) rfl rfl (Nat.le_of_ble_eq_true rfl) hdg (fun H1 locs1 h1 _ h3 => kk H1 locs1 (by rw [sC_4_4 g a M v] at h1; exact h1) h3)
theorem fg_X4_56 (C : Cx p s m args meth c cc nL rt RX4 D (tyL g)) (hP : va_P D clL (wC g a M) H) (hdg : decode cc pc = .ok (.getfield 56, 3)) (kk : W p l e R s m args below meth c H locs cells slots Q (F0 m (pc + 3) ls (.int (M 4 5) :: rest))) : W p l e R s m args below meth c H locs cells slots Q (F0 m pc ls (.ref (a 4) :: rest)) := by
  obtain ⟨hx, hb, hr, hml, hown, ht, hlocks, hK, hN⟩ := C
  exact va_get (D := D) (ci := 4) (C := RX4) (T := TX4) (N := 6) hx hb ht giX4 hown hK hP (4) (aC_4 g a M) rfl 5 (by decide) (ht _ wd_143) (fun _ h => h) rfl hdg kk
theorem fp_X4_56 (C : Cx p s m args meth c cc nL rt RX4 D (tyL g)) (hP : va_P D clL (wC g a M) H) (hD : va_D A (wC g a M)) (hS : va_S A H0 H locs) {v : Int32} (hdg : decode cc pc = .ok (.putfield 56, 3)) (kk : ∀ (H1 : Heap) (locs1 : List Loc), va_P D clL (wC g a (up M 4 5 v)) H1 → va_S A H0 H1 locs1 → W p l e R s m args below meth c H1 locs1 cells slots Q (F0 m (pc + 3) ls rest)) : W p l e R s m args below meth c H locs cells slots Q (F0 m pc ls (.int v :: .ref (a 4) :: rest)) := by
  obtain ⟨hx, hb, hr, hml, hown, ht, hlocks, hK, hN⟩ := C
  exact va_put (D := D) (ci := 4) (ty := .int) (C := RX4) (T := TX4) (N := 6) hx hb ht giX4 tyX4 tyX4_ok nmX4 hown hK hP hD hS (4) (aC_4 g a M) rfl 5 (by decide) (ht _ wd_143) (fun _ h => h) rfl (by decide +kernel) rfl rfl (Nat.le_of_ble_eq_true rfl) hdg (fun H1 locs1 h1 _ h3 => kk H1 locs1 (by rw [sC_4_5 g a M v] at h1; exact h1) h3)
theorem fg_X11_185 (C : Cx p s m args meth c cc nL rt RX11 D (tyL g)) (hP : va_P D clL (wC g a M) H) (hdg : decode cc pc = .ok (.getfield 185, 3)) (kk : W p l e R s m args below meth c H locs cells slots Q (F0 m (pc + 3) ls (.int (M 4 5) :: rest))) : W p l e R s m args below meth c H locs cells slots Q (F0 m pc ls (.ref (a 4) :: rest)) := by
  obtain ⟨hx, hb, hr, hml, hown, ht, hlocks, hK, hN⟩ := C
  exact va_getN (D := D) (ci := 4) (C := RX4) (T := TX4) (N := 6) hx hb ht giX4 hown hK hP (4) (aC_4 g a M) rfl 5 (by decide) (hN.f 13 rfl args) (fun _ h => h) rfl hdg kk
theorem fp_X11_185 (C : Cx p s m args meth c cc nL rt RX11 D (tyL g)) (hP : va_P D clL (wC g a M) H) (hD : va_D A (wC g a M)) (hS : va_S A H0 H locs) {v : Int32} (hdg : decode cc pc = .ok (.putfield 185, 3)) (kk : ∀ (H1 : Heap) (locs1 : List Loc), va_P D clL (wC g a (up M 4 5 v)) H1 → va_S A H0 H1 locs1 → W p l e R s m args below meth c H1 locs1 cells slots Q (F0 m (pc + 3) ls rest)) : W p l e R s m args below meth c H locs cells slots Q (F0 m pc ls (.int v :: .ref (a 4) :: rest)) := by
  obtain ⟨hx, hb, hr, hml, hown, ht, hlocks, hK, hN⟩ := C
  exact va_putN (D := D) (ci := 4) (ty := .int) (C := RX4) (T := TX4) (N := 6) hx hb ht giX4 tyX4 tyX4_ok nmX4 hown hK hP hD hS (4) (aC_4 g a M) rfl 5 (by decide) (hN.f 13 rfl args) (fun _ h => h) rfl (by decide +kernel) rfl rfl (Nat.le_of_ble_eq_true rfl) hdg (fun H1 locs1 h1 _ h3 => kk H1 locs1 (by rw [sC_4_5 g a M v] at h1; exact h1) h3)
theorem fg_X9_18 (C : Cx p s m args meth c cc nL rt RX9 D (tyL g)) (hP : va_P D clL (wC g a M) H) (hdg : decode cc pc = .ok (.getfield 18, 3)) (kk : W p l e R s m args below meth c H locs cells slots Q (F0 m (pc + 3) ls (.ref (a 2) :: rest))) : W p l e R s m args below meth c H locs cells slots Q (F0 m pc ls (.ref (a 5) :: rest)) := by
  obtain ⟨hx, hb, hr, hml, hown, ht, hlocks, hK, hN⟩ := C
  exact va_get (D := D) (ci := 9) (C := RX9) (T := TX9) (N := 3) hx hb ht giX9 hown hK hP (5) (aC_5 g a M) rfl 0 (by decide) (ht _ wd_164) (fun _ h => h) rfl hdg kk
theorem fg_X9_9 (C : Cx p s m args meth c cc nL rt RX9 D (tyL g)) (hP : va_P D clL (wC g a M) H) (hdg : decode cc pc = .ok (.getfield 9, 3)) (kk : W p l e R s m args below meth c H locs cells slots Q (F0 m (pc + 3) ls (.ref (a 35) :: rest))) : W p l e R s m args below meth c H locs cells slots Q (F0 m pc ls (.ref (a 5) :: rest)) := by
  obtain ⟨hx, hb, hr, hml, hown, ht, hlocks, hK, hN⟩ := C
  exact va_get (D := D) (ci := 9) (C := RX9) (T := TX9) (N := 3) hx hb ht giX9 hown hK hP (5) (aC_5 g a M) rfl 1 (by decide) (ht _ wd_165) (fun _ h => h) rfl hdg kk
theorem fg_X9_15 (C : Cx p s m args meth c cc nL rt RX9 D (tyL g)) (hP : va_P D clL (wC g a M) H) (hdg : decode cc pc = .ok (.getfield 15, 3)) (kk : W p l e R s m args below meth c H locs cells slots Q (F0 m (pc + 3) ls (.ref (a 36) :: rest))) : W p l e R s m args below meth c H locs cells slots Q (F0 m pc ls (.ref (a 5) :: rest)) := by
  obtain ⟨hx, hb, hr, hml, hown, ht, hlocks, hK, hN⟩ := C
  exact va_get (D := D) (ci := 9) (C := RX9) (T := TX9) (N := 3) hx hb ht giX9 hown hK hP (5) (aC_5 g a M) rfl 2 (by decide) (ht _ wd_166) (fun _ h => h) rfl hdg kk
theorem fg_X2_15 (C : Cx p s m args meth c cc nL rt RX2 D (tyL g)) (hP : va_P D clL (wC g a M) H) (hdg : decode cc pc = .ok (.getfield 15, 3)) (kk : W p l e R s m args below meth c H locs cells slots Q (F0 m (pc + 3) ls (.ref (a 2) :: rest))) : W p l e R s m args below meth c H locs cells slots Q (F0 m pc ls (.ref (a 6) :: rest)) := by
  obtain ⟨hx, hb, hr, hml, hown, ht, hlocks, hK, hN⟩ := C
  exact va_get (D := D) (ci := 2) (C := RX2) (T := TX2) (N := 2) hx hb ht giX2 hown hK hP (6) (aC_6 g a M) rfl 0 (by decide) (ht _ wd_180) (fun _ h => h) rfl hdg kk
theorem fg_X2_9 (C : Cx p s m args meth c cc nL rt RX2 D (tyL g)) (hP : va_P D clL (wC g a M) H) (hdg : decode cc pc = .ok (.getfield 9, 3)) (kk : W p l e R s m args below meth c H locs cells slots Q (F0 m (pc + 3) ls (.ref (a 37) :: rest))) : W p l e R s m args below meth c H locs cells slots Q (F0 m pc ls (.ref (a 6) :: rest)) := by
  obtain ⟨hx, hb, hr, hml, hown, ht, hlocks, hK, hN⟩ := C
  exact va_get (D := D) (ci := 2) (C := RX2) (T := TX2) (N := 2) hx hb ht giX2 hown hK hP (6) (aC_6 g a M) rfl 1 (by decide) (ht _ wd_181) (fun _ h => h) rfl hdg kk
theorem fg_X5_21 (C : Cx p s m args meth c cc nL rt RX5 D (tyL g)) (hP : va_P D clL (wC g a M) H) (hdg : decode cc pc = .ok (.getfield 21, 3)) (kk : W p l e R s m args below meth c H locs cells slots Q (F0 m (pc + 3) ls (.ref (a 2) :: rest))) : W p l e R s m args below meth c H locs cells slots Q (F0 m pc ls (.ref (a 7) :: rest)) := by
  obtain ⟨hx, hb, hr, hml, hown, ht, hlocks, hK, hN⟩ := C
  exact va_get (D := D) (ci := 5) (C := RX5) (T := TX5) (N := 5) hx hb ht giX5 hown hK hP (7) (aC_7 g a M) rfl 0 (by decide) (ht _ wd_193) (fun _ h => h) rfl hdg kk
theorem fg_X5_9 (C : Cx p s m args meth c cc nL rt RX5 D (tyL g)) (hP : va_P D clL (wC g a M) H) (hdg : decode cc pc = .ok (.getfield 9, 3)) (kk : W p l e R s m args below meth c H locs cells slots Q (F0 m (pc + 3) ls (.ref (a 38) :: rest))) : W p l e R s m args below meth c H locs cells slots Q (F0 m pc ls (.ref (a 7) :: rest)) := by
  obtain ⟨hx, hb, hr, hml, hown, ht, hlocks, hK, hN⟩ := C
  exact va_get (D := D) (ci := 5) (C := RX5) (T := TX5) (N := 5) hx hb ht giX5 hown hK hP (7) (aC_7 g a M) rfl 1 (by decide) (ht _ wd_194) (fun _ h => h) rfl hdg kk
theorem fg_X5_15 (C : Cx p s m args meth c cc nL rt RX5 D (tyL g)) (hP : va_P D clL (wC g a M) H) (hdg : decode cc pc = .ok (.getfield 15, 3)) (kk : W p l e R s m args below meth c H locs cells slots Q (F0 m (pc + 3) ls (.ref (a 39) :: rest))) : W p l e R s m args below meth c H locs cells slots Q (F0 m pc ls (.ref (a 7) :: rest)) := by
  obtain ⟨hx, hb, hr, hml, hown, ht, hlocks, hK, hN⟩ := C
  exact va_get (D := D) (ci := 5) (C := RX5) (T := TX5) (N := 5) hx hb ht giX5 hown hK hP (7) (aC_7 g a M) rfl 2 (by decide) (ht _ wd_195) (fun _ h => h) rfl hdg kk
theorem fg_X5_18 (C : Cx p s m args meth c cc nL rt RX5 D (tyL g)) (hP : va_P D clL (wC g a M) H) (hdg : decode cc pc = .ok (.getfield 18, 3)) (kk : W p l e R s m args below meth c H locs cells slots Q (F0 m (pc + 3) ls (.ref (a 40) :: rest))) : W p l e R s m args below meth c H locs cells slots Q (F0 m pc ls (.ref (a 7) :: rest)) := by
  obtain ⟨hx, hb, hr, hml, hown, ht, hlocks, hK, hN⟩ := C
  exact va_get (D := D) (ci := 5) (C := RX5) (T := TX5) (N := 5) hx hb ht giX5 hown hK hP (7) (aC_7 g a M) rfl 3 (by decide) (ht _ wd_196) (fun _ h => h) rfl hdg kk
theorem fg_X5_25 (C : Cx p s m args meth c cc nL rt RX5 D (tyL g)) (hP : va_P D clL (wC g a M) H) (hdg : decode cc pc = .ok (.getfield 25, 3)) (kk : W p l e R s m args below meth c H locs cells slots Q (F0 m (pc + 3) ls (.int (M 7 4) :: rest))) : W p l e R s m args below meth c H locs cells slots Q (F0 m pc ls (.ref (a 7) :: rest)) := by
  obtain ⟨hx, hb, hr, hml, hown, ht, hlocks, hK, hN⟩ := C
  exact va_get (D := D) (ci := 5) (C := RX5) (T := TX5) (N := 5) hx hb ht giX5 hown hK hP (7) (aC_7 g a M) rfl 4 (by decide) (ht _ wd_197) (fun _ h => h) rfl hdg kk
theorem fp_X5_25 (C : Cx p s m args meth c cc nL rt RX5 D (tyL g)) (hP : va_P D clL (wC g a M) H) (hD : va_D A (wC g a M)) (hS : va_S A H0 H locs) {v : Int32} (hdg : decode cc pc = .ok (.putfield 25, 3)) (kk : ∀ (H1 : Heap) (locs1 : List Loc), va_P D clL (wC g a (up M 7 4 v)) H1 → va_S A H0 H1 locs1 → W p l e R s m args below meth c H1 locs1 cells slots Q (F0 m (pc + 3) ls rest)) : W p l e R s m args below meth c H locs cells slots Q (F0 m pc ls (.int v :: .ref (a 7) :: rest)) := by
  obtain ⟨hx, hb, hr, hml, hown, ht, hlocks, hK, hN⟩ := C
  exact va_put (D := D) (ci := 5) (ty := .int) (C := RX5) (T := TX5) (N := 5) hx hb ht giX5 tyX5 tyX5_ok nmX5 hown hK hP hD hS (7) (aC_7 g a M) rfl 4 (by decide) (ht _ wd_197) (fun _ h => h) rfl (by decide +kernel) rfl rfl (Nat.le_of_ble_eq_true rfl) hdg (fun H1 locs1 h1 _ h3 => kk H1 locs1 (by rw [sC_7_4 g a M v] at h1; exact h1) h3)
theorem fg_X11_230 (C : Cx p s m args meth c cc nL rt RX11 D (tyL g)) (hP : va_P D clL (wC g a M) H) (hdg : decode cc pc = .ok (.getfield 230, 3)) (kk : W p l e R s m args below meth c H locs cells slots Q (F0 m (pc + 3) ls (.int (M 7 4) :: rest))) : W p l e R s m args below meth c H locs cells slots Q (F0 m pc ls (.ref (a 7) :: rest)) := by
  obtain ⟨hx, hb, hr, hml, hown, ht, hlocks, hK, hN⟩ := C
  exact va_getN (D := D) (ci := 5) (C := RX5) (T := TX5) (N := 5) hx hb ht giX5 hown hK hP (7) (aC_7 g a M) rfl 4 (by decide) (hN.f 14 rfl args) (fun _ h => h) rfl hdg kk
theorem fp_X11_230 (C : Cx p s m args meth c cc nL rt RX11 D (tyL g)) (hP : va_P D clL (wC g a M) H) (hD : va_D A (wC g a M)) (hS : va_S A H0 H locs) {v : Int32} (hdg : decode cc pc = .ok (.putfield 230, 3)) (kk : ∀ (H1 : Heap) (locs1 : List Loc), va_P D clL (wC g a (up M 7 4 v)) H1 → va_S A H0 H1 locs1 → W p l e R s m args below meth c H1 locs1 cells slots Q (F0 m (pc + 3) ls rest)) : W p l e R s m args below meth c H locs cells slots Q (F0 m pc ls (.int v :: .ref (a 7) :: rest)) := by
  obtain ⟨hx, hb, hr, hml, hown, ht, hlocks, hK, hN⟩ := C
  exact va_putN (D := D) (ci := 5) (ty := .int) (C := RX5) (T := TX5) (N := 5) hx hb ht giX5 tyX5 tyX5_ok nmX5 hown hK hP hD hS (7) (aC_7 g a M) rfl 4 (by decide) (hN.f 14 rfl args) (fun _ h => h) rfl (by decide +kernel) rfl rfl (Nat.le_of_ble_eq_true rfl) hdg (fun H1 locs1 h1 _ h3 => kk H1 locs1 (by rw [sC_7_4 g a M v] at h1; exact h1) h3)
theorem fg_X6_9 {k : Nat} (hk : k < 4) (C : Cx p s m args meth c cc nL rt RX6 D (tyL g)) (hP : va_P D clL (wC g a M) H) (hdg : decode cc pc = .ok (.getfield 9, 3)) (kk : W p l e R s m args below meth c H locs cells slots Q (F0 m (pc + 3) ls (.ref (a (13 + k)) :: rest))) : W p l e R s m args below meth c H locs cells slots Q (F0 m pc ls (.ref (a (9 + k)) :: rest)) := by
  obtain ⟨hx, hb, hr, hml, hown, ht, hlocks, hK, hN⟩ := C
  exact va_get (D := D) (ci := 6) (C := RX6) (T := TX6) (N := 3) hx hb ht giX6 hown hK hP (9 + k) (aC_S g a M hk) rfl 0 (by decide) (ht _ wd_217) (fun _ h => h) rfl hdg kk
theorem fg_X3_46 {k : Nat} (hk : k < 4) (C : Cx p s m args meth c cc nL rt RX3 D (tyL g)) (hP : va_P D clL (wC g a M) H) (hdg : decode cc pc = .ok (.getfield 46, 3)) (kk : W p l e R s m args below meth c H locs cells slots Q (F0 m (pc + 3) ls (.ref (a (13 + k)) :: rest))) : W p l e R s m args below meth c H locs cells slots Q (F0 m pc ls (.ref (a (9 + k)) :: rest)) := by
  obtain ⟨hx, hb, hr, hml, hown, ht, hlocks, hK, hN⟩ := C
  exact va_getN (D := D) (ci := 6) (C := RX6) (T := TX6) (N := 3) hx hb ht giX6 hown hK hP (9 + k) (aC_S g a M hk) rfl 0 (by decide) (hN.f 15 rfl args) (fun _ h => h) rfl hdg kk
theorem fg_X11_256 {k : Nat} (hk : k < 4) (C : Cx p s m args meth c cc nL rt RX11 D (tyL g)) (hP : va_P D clL (wC g a M) H) (hdg : decode cc pc = .ok (.getfield 256, 3)) (kk : W p l e R s m args below meth c H locs cells slots Q (F0 m (pc + 3) ls (.ref (a (13 + k)) :: rest))) : W p l e R s m args below meth c H locs cells slots Q (F0 m pc ls (.ref (a (9 + k)) :: rest)) := by
  obtain ⟨hx, hb, hr, hml, hown, ht, hlocks, hK, hN⟩ := C
  exact va_getN (D := D) (ci := 6) (C := RX6) (T := TX6) (N := 3) hx hb ht giX6 hown hK hP (9 + k) (aC_S g a M hk) rfl 0 (by decide) (hN.f 16 rfl args) (fun _ h => h) rfl hdg kk
theorem fg_X6_15 {k : Nat} (hk : k < 4) (C : Cx p s m args meth c cc nL rt RX6 D (tyL g)) (hP : va_P D clL (wC g a M) H) (hdg : decode cc pc = .ok (.getfield 15, 3)) (kk : W p l e R s m args below meth c H locs cells slots Q (F0 m (pc + 3) ls (.int (M (9 + k) 1) :: rest))) : W p l e R s m args below meth c H locs cells slots Q (F0 m pc ls (.ref (a (9 + k)) :: rest)) := by
  obtain ⟨hx, hb, hr, hml, hown, ht, hlocks, hK, hN⟩ := C
  exact va_get (D := D) (ci := 6) (C := RX6) (T := TX6) (N := 3) hx hb ht giX6 hown hK hP (9 + k) (aC_S g a M hk) rfl 1 (by decide) (ht _ wd_220) (fun _ h => h) rfl hdg kk
theorem fp_X6_15 {k : Nat} (hk : k < 4) (C : Cx p s m args meth c cc nL rt RX6 D (tyL g)) (hP : va_P D clL (wC g a M) H) (hD : va_D A (wC g a M)) (hS : va_S A H0 H locs) {v : Int32} (hdg : decode cc pc = .ok (.putfield 15, 3)) (kk : ∀ (H1 : Heap) (locs1 : List Loc), va_P D clL (wC g a (up M (9 + k) 1 v)) H1 → va_S A H0 H1 locs1 → W p l e R s m args below meth c H1 locs1 cells slots Q (F0 m (pc + 3) ls rest)) : W p l e R s m args below meth c H locs cells slots Q (F0 m pc ls (.int v :: .ref (a (9 + k)) :: rest)) := by
  obtain ⟨hx, hb, hr, hml, hown, ht, hlocks, hK, hN⟩ := C
  exact va_put (D := D) (ci := 6) (ty := .int) (C := RX6) (T := TX6) (N := 3) hx hb ht giX6 tyX6 tyX6_ok nmX6 hown hK hP hD hS (9 + k) (aC_S g a M hk) rfl 1 (by decide) (ht _ wd_220) (fun _ h => h) rfl (by decide +kernel) rfl rfl (Nat.le_of_ble_eq_true rfl) hdg (fun H1 locs1 h1 _ h3 => kk H1 locs1 (by rw [sC_S1 g a M v hk] at h1; exact h1) h3)
theorem fg_X11_259 {k : Nat} (hk : k < 4) (C : Cx p s m args meth c cc nL rt RX11 D (tyL g)) (hP : va_P D clL (wC g a M) H) (hdg : decode cc pc = .ok (.getfield 259, 3)) (kk : W p l e R s m args below meth c H locs cells slots Q (F0 m (pc + 3) ls (.int (M (9 + k) 1) :: rest))) : W p l e R s m args below meth c H locs cells slots Q (F0 m pc ls (.ref (a (9 + k)) :: rest)) := by
  obtain ⟨hx, hb, hr, hml, hown, ht, hlocks, hK, hN⟩ := C
  exact va_getN (D := D) (ci := 6) (C := RX6) (T := TX6) (N := 3) hx hb ht giX6 hown hK hP (9 + k) (aC_S g a M hk) rfl 1 (by decide) (hN.f 17 rfl args) (fun _ h => h) rfl hdg kk
theorem fp_X11_259 {k : Nat} (hk : k < 4) (C : Cx p s m args meth c cc nL rt RX11 D (tyL g)) (hP : va_P D clL (wC g a M) H) (hD : va_D A (wC g a M)) (hS : va_S A H0 H locs) {v : Int32} (hdg : decode cc pc = .ok (.putfield 259, 3)) (kk : ∀ (H1 : Heap) (locs1 : List Loc), va_P D clL (wC g a (up M (9 + k) 1 v)) H1 → va_S A H0 H1 locs1 → W p l e R s m args below meth c H1 locs1 cells slots Q (F0 m (pc + 3) ls rest)) : W p l e R s m args below meth c H locs cells slots Q (F0 m pc ls (.int v :: .ref (a (9 + k)) :: rest)) := by
  obtain ⟨hx, hb, hr, hml, hown, ht, hlocks, hK, hN⟩ := C
  exact va_putN (D := D) (ci := 6) (ty := .int) (C := RX6) (T := TX6) (N := 3) hx hb ht giX6 tyX6 tyX6_ok nmX6 hown hK hP hD hS (9 + k) (aC_S g a M hk) rfl 1 (by decide) (hN.f 17 rfl args) (fun _ h => h) rfl (by decide +kernel) rfl rfl (Nat.le_of_ble_eq_true rfl) hdg (fun H1 locs1 h1 _ h3 => kk H1 locs1 (by rw [sC_S1 g a M v hk] at h1; exact h1) h3)
theorem fg_X6_23 {k : Nat} (hk : k < 4) (C : Cx p s m args meth c cc nL rt RX6 D (tyL g)) (hP : va_P D clL (wC g a M) H) (hdg : decode cc pc = .ok (.getfield 23, 3)) (kk : W p l e R s m args below meth c H locs cells slots Q (F0 m (pc + 3) ls (.int (M (9 + k) 2) :: rest))) : W p l e R s m args below meth c H locs cells slots Q (F0 m pc ls (.ref (a (9 + k)) :: rest)) := by
  obtain ⟨hx, hb, hr, hml, hown, ht, hlocks, hK, hN⟩ := C
  exact va_get (D := D) (ci := 6) (C := RX6) (T := TX6) (N := 3) hx hb ht giX6 hown hK hP (9 + k) (aC_S g a M hk) rfl 2 (by decide) (ht _ wd_222) (fun _ h => h) rfl hdg kk
theorem fp_X6_23 {k : Nat} (hk : k < 4) (C : Cx p s m args meth c cc nL rt RX6 D (tyL g)) (hP : va_P D clL (wC g a M) H) (hD : va_D A (wC g a M)) (hS : va_S A H0 H locs) {v : Int32} (hdg : decode cc pc = .ok (.putfield 23, 3)) (kk : ∀ (H1 : Heap) (locs1 : List Loc), va_P D clL (wC g a (up M (9 + k) 2 v)) H1 → va_S A H0 H1 locs1 → W p l e R s m args below meth c H1 locs1 cells slots Q (F0 m (pc + 3) ls rest)) : W p l e R s m args below meth c H locs cells slots Q (F0 m pc ls (.int v :: .ref (a (9 + k)) :: rest)) := by
  obtain ⟨hx, hb, hr, hml, hown, ht, hlocks, hK, hN⟩ := C
  exact va_put (D := D) (ci := 6) (ty := .int) (C := RX6) (T := TX6) (N := 3) hx hb ht giX6 tyX6 tyX6_ok nmX6 hown hK hP hD hS (9 + k) (aC_S g a M hk) rfl 2 (by decide) (ht _ wd_222) (fun _ h => h) rfl (by decide +kernel) rfl rfl (Nat.le_of_ble_eq_true rfl) hdg (fun H1 locs1 h1 _ h3 => kk H1 locs1 (by rw [sC_S2 g a M v hk] at h1; exact h1) h3)
theorem fg_X11_12 (C : Cx p s m args meth c cc nL rt RX11 D (tyL g)) (hP : va_P D clL (wC g a M) H) (hdg : decode cc pc = .ok (.getfield 12, 3)) (kk : W p l e R s m args below meth c H locs cells slots Q (F0 m (pc + 3) ls (.ref (a 1) :: rest))) : W p l e R s m args below meth c H locs cells slots Q (F0 m pc ls (.ref (a 0) :: rest)) := by
  obtain ⟨hx, hb, hr, hml, hown, ht, hlocks, hK, hN⟩ := C
  exact va_get (D := D) (ci := 11) (C := RX11) (T := TX11) (N := 9) hx hb ht giX11 hown hK hP (0) (aC_0 g a M) rfl 0 (by decide) (ht _ wd_230) (fun _ h => h) rfl hdg kk
theorem fg_X11_21 (C : Cx p s m args meth c cc nL rt RX11 D (tyL g)) (hP : va_P D clL (wC g a M) H) (hdg : decode cc pc = .ok (.getfield 21, 3)) (kk : W p l e R s m args below meth c H locs cells slots Q (F0 m (pc + 3) ls (.ref (a 2) :: rest))) : W p l e R s m args below meth c H locs cells slots Q (F0 m pc ls (.ref (a 0) :: rest)) := by
  obtain ⟨hx, hb, hr, hml, hown, ht, hlocks, hK, hN⟩ := C
  exact va_get (D := D) (ci := 11) (C := RX11) (T := TX11) (N := 9) hx hb ht giX11 hown hK hP (0) (aC_0 g a M) rfl 1 (by decide) (ht _ wd_231) (fun _ h => h) rfl hdg kk
theorem fg_X11_30 (C : Cx p s m args meth c cc nL rt RX11 D (tyL g)) (hP : va_P D clL (wC g a M) H) (hdg : decode cc pc = .ok (.getfield 30, 3)) (kk : W p l e R s m args below meth c H locs cells slots Q (F0 m (pc + 3) ls (.ref (a 3) :: rest))) : W p l e R s m args below meth c H locs cells slots Q (F0 m pc ls (.ref (a 0) :: rest)) := by
  obtain ⟨hx, hb, hr, hml, hown, ht, hlocks, hK, hN⟩ := C
  exact va_get (D := D) (ci := 11) (C := RX11) (T := TX11) (N := 9) hx hb ht giX11 hown hK hP (0) (aC_0 g a M) rfl 2 (by decide) (ht _ wd_232) (fun _ h => h) rfl hdg kk
theorem fg_X11_37 (C : Cx p s m args meth c cc nL rt RX11 D (tyL g)) (hP : va_P D clL (wC g a M) H) (hdg : decode cc pc = .ok (.getfield 37, 3)) (kk : W p l e R s m args below meth c H locs cells slots Q (F0 m (pc + 3) ls (.ref (a 4) :: rest))) : W p l e R s m args below meth c H locs cells slots Q (F0 m pc ls (.ref (a 0) :: rest)) := by
  obtain ⟨hx, hb, hr, hml, hown, ht, hlocks, hK, hN⟩ := C
  exact va_get (D := D) (ci := 11) (C := RX11) (T := TX11) (N := 9) hx hb ht giX11 hown hK hP (0) (aC_0 g a M) rfl 3 (by decide) (ht _ wd_233) (fun _ h => h) rfl hdg kk
theorem fg_X11_44 (C : Cx p s m args meth c cc nL rt RX11 D (tyL g)) (hP : va_P D clL (wC g a M) H) (hdg : decode cc pc = .ok (.getfield 44, 3)) (kk : W p l e R s m args below meth c H locs cells slots Q (F0 m (pc + 3) ls (.ref (a 5) :: rest))) : W p l e R s m args below meth c H locs cells slots Q (F0 m pc ls (.ref (a 0) :: rest)) := by
  obtain ⟨hx, hb, hr, hml, hown, ht, hlocks, hK, hN⟩ := C
  exact va_get (D := D) (ci := 11) (C := RX11) (T := TX11) (N := 9) hx hb ht giX11 hown hK hP (0) (aC_0 g a M) rfl 4 (by decide) (ht _ wd_234) (fun _ h => h) rfl hdg kk
theorem fg_X11_51 (C : Cx p s m args meth c cc nL rt RX11 D (tyL g)) (hP : va_P D clL (wC g a M) H) (hdg : decode cc pc = .ok (.getfield 51, 3)) (kk : W p l e R s m args below meth c H locs cells slots Q (F0 m (pc + 3) ls (.ref (a 6) :: rest))) : W p l e R s m args below meth c H locs cells slots Q (F0 m pc ls (.ref (a 0) :: rest)) := by
  obtain ⟨hx, hb, hr, hml, hown, ht, hlocks, hK, hN⟩ := C
  exact va_get (D := D) (ci := 11) (C := RX11) (T := TX11) (N := 9) hx hb ht giX11 hown hK hP (0) (aC_0 g a M) rfl 5 (by decide) (ht _ wd_235) (fun _ h => h) rfl hdg kk
theorem fg_X11_58 (C : Cx p s m args meth c cc nL rt RX11 D (tyL g)) (hP : va_P D clL (wC g a M) H) (hdg : decode cc pc = .ok (.getfield 58, 3)) (kk : W p l e R s m args below meth c H locs cells slots Q (F0 m (pc + 3) ls (.ref (a 7) :: rest))) : W p l e R s m args below meth c H locs cells slots Q (F0 m pc ls (.ref (a 0) :: rest)) := by
  obtain ⟨hx, hb, hr, hml, hown, ht, hlocks, hK, hN⟩ := C
  exact va_get (D := D) (ci := 11) (C := RX11) (T := TX11) (N := 9) hx hb ht giX11 hown hK hP (0) (aC_0 g a M) rfl 6 (by decide) (ht _ wd_236) (fun _ h => h) rfl hdg kk
theorem fg_X11_65 (C : Cx p s m args meth c cc nL rt RX11 D (tyL g)) (hP : va_P D clL (wC g a M) H) (hdg : decode cc pc = .ok (.getfield 65, 3)) (kk : W p l e R s m args below meth c H locs cells slots Q (F0 m (pc + 3) ls (.ref (a 8) :: rest))) : W p l e R s m args below meth c H locs cells slots Q (F0 m pc ls (.ref (a 0) :: rest)) := by
  obtain ⟨hx, hb, hr, hml, hown, ht, hlocks, hK, hN⟩ := C
  exact va_get (D := D) (ci := 11) (C := RX11) (T := TX11) (N := 9) hx hb ht giX11 hown hK hP (0) (aC_0 g a M) rfl 7 (by decide) (ht _ wd_237) (fun _ h => h) rfl hdg kk
theorem fg_X11_69 (C : Cx p s m args meth c cc nL rt RX11 D (tyL g)) (hP : va_P D clL (wC g a M) H) (hdg : decode cc pc = .ok (.getfield 69, 3)) (kk : W p l e R s m args below meth c H locs cells slots Q (F0 m (pc + 3) ls (.int (M 0 8) :: rest))) : W p l e R s m args below meth c H locs cells slots Q (F0 m pc ls (.ref (a 0) :: rest)) := by
  obtain ⟨hx, hb, hr, hml, hown, ht, hlocks, hK, hN⟩ := C
  exact va_get (D := D) (ci := 11) (C := RX11) (T := TX11) (N := 9) hx hb ht giX11 hown hK hP (0) (aC_0 g a M) rfl 8 (by decide) (ht _ wd_238) (fun _ h => h) rfl hdg kk
theorem fp_X11_69 (C : Cx p s m args meth c cc nL rt RX11 D (tyL g)) (hP : va_P D clL (wC g a M) H) (hD : va_D A (wC g a M)) (hS : va_S A H0 H locs) {v : Int32} (hdg : decode cc pc = .ok (.putfield 69, 3)) (kk : ∀ (H1 : Heap) (locs1 : List Loc), va_P D clL (wC g a (up M 0 8 v)) H1 → va_S A H0 H1 locs1 → W p l e R s m args below meth c H1 locs1 cells slots Q (F0 m (pc + 3) ls rest)) : W p l e R s m args below meth c H locs cells slots Q (F0 m pc ls (.int v :: .ref (a 0) :: rest)) := by
  obtain ⟨hx, hb, hr, hml, hown, ht, hlocks, hK, hN⟩ := C
  exact va_put (D := D) (ci := 11) (ty := .int) (C := RX11) (T := TX11) (N := 9) hx hb ht giX11 tyX11 tyX11_ok nmX11 hown hK hP hD hS (0) (aC_0 g a M) rfl 8 (by decide) (ht _ wd_238) (fun _ h => h) rfl (by decide +kernel) rfl rfl (Nat.le_of_ble_eq_true rfl) hdg (fun H1 locs1 h1 _ h3 => kk H1 locs1 (by rw [sC_0_8 g a M v] at h1; exact h1) h3)
theorem fg_X12_62 (C : Cx p s m args meth c cc nL rt RX12 D (tyL g)) (hP : va_P D clL (wM g a M) H) (hdg : decode cc pc = .ok (.getfield 62, 3)) (kk : W p l e R s m args below meth c H locs cells slots Q (F0 m (pc + 3) ls (.int (M 0 0) :: rest))) : W p l e R s m args below meth c H locs cells slots Q (F0 m pc ls (.ref (a 0) :: rest)) := by
  obtain ⟨hx, hb, hr, hml, hown, ht, hlocks, hK, hN⟩ := C
  exact va_get (D := D) (ci := 12) (C := RX12) (T := TX12) (N := 25) hx hb ht giX12 hown hK hP (0) (aM_0 g a M) rfl 0 (by decide) (ht _ wd_732) (fun _ h => h) rfl hdg kk
theorem fp_X12_62 (C : Cx p s m args meth c cc nL rt RX12 D (tyL g)) (hP : va_P D clL (wM g a M) H) (hD : va_D A (wM g a M)) (hS : va_S A H0 H locs) {v : Int32} (hdg : decode cc pc = .ok (.putfield 62, 3)) (kk : ∀ (H1 : Heap) (locs1 : List Loc), va_P D clL (wM g a (up M 0 0 v)) H1 → va_S A H0 H1 locs1 → W p l e R s m args below meth c H1 locs1 cells slots Q (F0 m (pc + 3) ls rest)) : W p l e R s m args below meth c H locs cells slots Q (F0 m pc ls (.int v :: .ref (a 0) :: rest)) := by
  obtain ⟨hx, hb, hr, hml, hown, ht, hlocks, hK, hN⟩ := C
  exact va_put (D := D) (ci := 12) (ty := .int) (C := RX12) (T := TX12) (N := 25) hx hb ht giX12 tyX12 tyX12_ok nmX12 hown hK hP hD hS (0) (aM_0 g a M) rfl 0 (by decide) (ht _ wd_732) (fun _ h => h) rfl (by decide +kernel) rfl rfl (Nat.le_of_ble_eq_true rfl) hdg (fun H1 locs1 h1 _ h3 => kk H1 locs1 (by rw [sM_0_0 g a M v] at h1; exact h1) h3)
theorem fg_X12_186 (C : Cx p s m args meth c cc nL rt RX12 D (tyL g)) (hP : va_P D clL (wM g a M) H) (hdg : decode cc pc = .ok (.getfield 186, 3)) (kk : W p l e R s m args below meth c H locs cells slots Q (F0 m (pc + 3) ls (.int (M 0 1) :: rest))) : W p l e R s m args below meth c H locs cells slots Q (F0 m pc ls (.ref (a 0) :: rest)) := by
  obtain ⟨hx, hb, hr, hml, hown, ht, hlocks, hK, hN⟩ := C
  exact va_get (D := D) (ci := 12) (C := RX12) (T := TX12) (N := 25) hx hb ht giX12 hown hK hP (0) (aM_0 g a M) rfl 1 (by decide) (ht _ wd_733) (fun _ h => h) rfl hdg kk
theorem fp_X12_186 (C : Cx p s m args meth c cc nL rt RX12 D (tyL g)) (hP : va_P D clL (wM g a M) H) (hD : va_D A (wM g a M)) (hS : va_S A H0 H locs) {v : Int32} (hdg : decode cc pc = .ok (.putfield 186, 3)) (kk : ∀ (H1 : Heap) (locs1 : List Loc), va_P D clL (wM g a (up M 0 1 v)) H1 → va_S A H0 H1 locs1 → W p l e R s m args below meth c H1 locs1 cells slots Q (F0 m (pc + 3) ls rest)) : W p l e R s m args below meth c H locs cells slots Q (F0 m pc ls (.int v :: .ref (a 0) :: rest)) := by
  obtain ⟨hx, hb, hr, hml, hown, ht, hlocks, hK, hN⟩ := C
  exact va_put (D := D) (ci := 12) (ty := .int) (C := RX12) (T := TX12) (N := 25) hx hb ht giX12 tyX12 tyX12_ok nmX12 hown hK hP hD hS (0) (aM_0 g a M) rfl 1 (by decide) (ht _ wd_733) (fun _ h => h) rfl (by decide +kernel) rfl rfl (Nat.le_of_ble_eq_true rfl) hdg (fun H1 locs1 h1 _ h3 => kk H1 locs1 (by rw [sM_0_1 g a M v] at h1; exact h1) h3)
theorem fg_X12_9 (C : Cx p s m args meth c cc nL rt RX12 D (tyL g)) (hP : va_P D clL (wM g a M) H) (hdg : decode cc pc = .ok (.getfield 9, 3)) (kk : W p l e R s m args below meth c H locs cells slots Q (F0 m (pc + 3) ls (.ref (a 1) :: rest))) : W p l e R s m args below meth c H locs cells slots Q (F0 m pc ls (.ref (a 0) :: rest)) := by
  obtain ⟨hx, hb, hr, hml, hown, ht, hlocks, hK, hN⟩ := C
  exact va_get (D := D) (ci := 12) (C := RX12) (T := TX12) (N := 25) hx hb ht giX12 hown hK hP (0) (aM_0 g a M) rfl 2 (by decide) (ht _ wd_734) (fun _ h => h) rfl hdg kk
theorem fg_X12_13 (C : Cx p s m args meth c cc nL rt RX12 D (tyL g)) (hP : va_P D clL (wM g a M) H) (hdg : decode cc pc = .ok (.getfield 13, 3)) (kk : W p l e R s m args below meth c H locs cells slots Q (F0 m (pc + 3) ls (.ref (a 2) :: rest))) : W p l e R s m args below meth c H locs cells slots Q (F0 m pc ls (.ref (a 0) :: rest)) := by
  obtain ⟨hx, hb, hr, hml, hown, ht, hlocks, hK, hN⟩ := C
  exact va_get (D := D) (ci := 12) (C := RX12) (T := TX12) (N := 25) hx hb ht giX12 hown hK hP (0) (aM_0 g a M) rfl 3 (by decide) (ht _ wd_735) (fun _ h => h) rfl hdg kk
theorem fg_X12_16 (C : Cx p s m args meth c cc nL rt RX12 D (tyL g)) (hP : va_P D clL (wM g a M) H) (hdg : decode cc pc = .ok (.getfield 16, 3)) (kk : W p l e R s m args below meth c H locs cells slots Q (F0 m (pc + 3) ls (.ref (a 3) :: rest))) : W p l e R s m args below meth c H locs cells slots Q (F0 m pc ls (.ref (a 0) :: rest)) := by
  obtain ⟨hx, hb, hr, hml, hown, ht, hlocks, hK, hN⟩ := C
  exact va_get (D := D) (ci := 12) (C := RX12) (T := TX12) (N := 25) hx hb ht giX12 hown hK hP (0) (aM_0 g a M) rfl 4 (by decide) (ht _ wd_736) (fun _ h => h) rfl hdg kk
theorem fg_X12_72 (C : Cx p s m args meth c cc nL rt RX12 D (tyL g)) (hP : va_P D clL (wM g a M) H) (hdg : decode cc pc = .ok (.getfield 72, 3)) (kk : W p l e R s m args below meth c H locs cells slots Q (F0 m (pc + 3) ls (.int (M 0 5) :: rest))) : W p l e R s m args below meth c H locs cells slots Q (F0 m pc ls (.ref (a 0) :: rest)) := by
  obtain ⟨hx, hb, hr, hml, hown, ht, hlocks, hK, hN⟩ := C
  exact va_get (D := D) (ci := 12) (C := RX12) (T := TX12) (N := 25) hx hb ht giX12 hown hK hP (0) (aM_0 g a M) rfl 5 (by decide) (ht _ wd_737) (fun _ h => h) rfl hdg kk
theorem fp_X12_72 (C : Cx p s m args meth c cc nL rt RX12 D (tyL g)) (hP : va_P D clL (wM g a M) H) (hD : va_D A (wM g a M)) (hS : va_S A H0 H locs) {v : Int32} (hdg : decode cc pc = .ok (.putfield 72, 3)) (kk : ∀ (H1 : Heap) (locs1 : List Loc), va_P D clL (wM g a (up M 0 5 v)) H1 → va_S A H0 H1 locs1 → W p l e R s m args below meth c H1 locs1 cells slots Q (F0 m (pc + 3) ls rest)) : W p l e R s m args below meth c H locs cells slots Q (F0 m pc ls (.int v :: .ref (a 0) :: rest)) := by
  obtain ⟨hx, hb, hr, hml, hown, ht, hlocks, hK, hN⟩ := C
  exact va_put (D := D) (ci := 12) (ty := .int) (C := RX12) (T := TX12) (N := 25) hx hb ht giX12 tyX12 tyX12_ok nmX12 hown hK hP hD hS (0) (aM_0 g a M) rfl 5 (by decide) (ht _ wd_737) (fun _ h => h) rfl (by decide +kernel) rfl rfl (Nat.le_of_ble_eq_true rfl) hdg (fun H1 locs1 h1 _ h3 => kk H1 locs1 (by rw [sM_0_5 g a M v] at h1; exact h1) h3)
theorem fg_X12_75 (C : Cx p s m args meth c cc nL rt RX12 D (tyL g)) (hP : va_P D clL (wM g a M) H) (hdg : decode cc pc = .ok (.getfield 75, 3)) (kk : W p l e R s m args below meth c H locs cells slots Q (F0 m (pc + 3) ls (.int (M 0 6) :: rest))) : W p l e R s m args below meth c H locs cells slots Q (F0 m pc ls (.ref (a 0) :: rest)) := by
  obtain ⟨hx, hb, hr, hml, hown, ht, hlocks, hK, hN⟩ := C
  exact va_get (D := D) (ci := 12) (C := RX12) (T := TX12) (N := 25) hx hb ht giX12 hown hK hP (0) (aM_0 g a M) rfl 6 (by decide) (ht _ wd_738) (fun _ h => h) rfl hdg kk
theorem fp_X12_75 (C : Cx p s m args meth c cc nL rt RX12 D (tyL g)) (hP : va_P D clL (wM g a M) H) (hD : va_D A (wM g a M)) (hS : va_S A H0 H locs) {v : Int32} (hdg : decode cc pc = .ok (.putfield 75, 3)) (kk : ∀ (H1 : Heap) (locs1 : List Loc), va_P D clL (wM g a (up M 0 6 v)) H1 → va_S A H0 H1 locs1 → W p l e R s m args below meth c H1 locs1 cells slots Q (F0 m (pc + 3) ls rest)) : W p l e R s m args below meth c H locs cells slots Q (F0 m pc ls (.int v :: .ref (a 0) :: rest)) := by
  obtain ⟨hx, hb, hr, hml, hown, ht, hlocks, hK, hN⟩ := C
  exact va_put (D := D) (ci := 12) (ty := .int) (C := RX12) (T := TX12) (N := 25) hx hb ht giX12 tyX12 tyX12_ok nmX12 hown hK hP hD hS (0) (aM_0 g a M) rfl 6 (by decide) (ht _ wd_738) (fun _ h => h) rfl (by decide +kernel) rfl rfl (Nat.le_of_ble_eq_true rfl) hdg (fun H1 locs1 h1 _ h3 => kk H1 locs1 (by rw [sM_0_6 g a M v] at h1; exact h1) h3)
theorem fg_X12_19 (C : Cx p s m args meth c cc nL rt RX12 D (tyL g)) (hP : va_P D clL (wM g a M) H) (hdg : decode cc pc = .ok (.getfield 19, 3)) (kk : W p l e R s m args below meth c H locs cells slots Q (F0 m (pc + 3) ls (.ref (a 4) :: rest))) : W p l e R s m args below meth c H locs cells slots Q (F0 m pc ls (.ref (a 0) :: rest)) := by
  obtain ⟨hx, hb, hr, hml, hown, ht, hlocks, hK, hN⟩ := C
  exact va_get (D := D) (ci := 12) (C := RX12) (T := TX12) (N := 25) hx hb ht giX12 hown hK hP (0) (aM_0 g a M) rfl 7 (by decide) (ht _ wd_739) (fun _ h => h) rfl hdg kk
theorem fg_X12_22 (C : Cx p s m args meth c cc nL rt RX12 D (tyL g)) (hP : va_P D clL (wM g a M) H) (hdg : decode cc pc = .ok (.getfield 22, 3)) (kk : W p l e R s m args below meth c H locs cells slots Q (F0 m (pc + 3) ls (.ref (a 5) :: rest))) : W p l e R s m args below meth c H locs cells slots Q (F0 m pc ls (.ref (a 0) :: rest)) := by
  obtain ⟨hx, hb, hr, hml, hown, ht, hlocks, hK, hN⟩ := C
  exact va_get (D := D) (ci := 12) (C := RX12) (T := TX12) (N := 25) hx hb ht giX12 hown hK hP (0) (aM_0 g a M) rfl 8 (by decide) (ht _ wd_740) (fun _ h => h) rfl hdg kk
theorem fg_X12_25 (C : Cx p s m args meth c cc nL rt RX12 D (tyL g)) (hP : va_P D clL (wM g a M) H) (hdg : decode cc pc = .ok (.getfield 25, 3)) (kk : W p l e R s m args below meth c H locs cells slots Q (F0 m (pc + 3) ls (.ref (a 6) :: rest))) : W p l e R s m args below meth c H locs cells slots Q (F0 m pc ls (.ref (a 0) :: rest)) := by
  obtain ⟨hx, hb, hr, hml, hown, ht, hlocks, hK, hN⟩ := C
  exact va_get (D := D) (ci := 12) (C := RX12) (T := TX12) (N := 25) hx hb ht giX12 hown hK hP (0) (aM_0 g a M) rfl 9 (by decide) (ht _ wd_741) (fun _ h => h) rfl hdg kk
theorem fg_X12_28 (C : Cx p s m args meth c cc nL rt RX12 D (tyL g)) (hP : va_P D clL (wM g a M) H) (hdg : decode cc pc = .ok (.getfield 28, 3)) (kk : W p l e R s m args below meth c H locs cells slots Q (F0 m (pc + 3) ls (.ref (a 7) :: rest))) : W p l e R s m args below meth c H locs cells slots Q (F0 m pc ls (.ref (a 0) :: rest)) := by
  obtain ⟨hx, hb, hr, hml, hown, ht, hlocks, hK, hN⟩ := C
  exact va_get (D := D) (ci := 12) (C := RX12) (T := TX12) (N := 25) hx hb ht giX12 hown hK hP (0) (aM_0 g a M) rfl 10 (by decide) (ht _ wd_742) (fun _ h => h) rfl hdg kk
theorem fg_X12_31 (C : Cx p s m args meth c cc nL rt RX12 D (tyL g)) (hP : va_P D clL (wM g a M) H) (hdg : decode cc pc = .ok (.getfield 31, 3)) (kk : W p l e R s m args below meth c H locs cells slots Q (F0 m (pc + 3) ls (.ref (a 8) :: rest))) : W p l e R s m args below meth c H locs cells slots Q (F0 m pc ls (.ref (a 0) :: rest)) := by
  obtain ⟨hx, hb, hr, hml, hown, ht, hlocks, hK, hN⟩ := C
  exact va_get (D := D) (ci := 12) (C := RX12) (T := TX12) (N := 25) hx hb ht giX12 hown hK hP (0) (aM_0 g a M) rfl 11 (by decide) (ht _ wd_743) (fun _ h => h) rfl hdg kk
theorem fg_X12_82 (C : Cx p s m args meth c cc nL rt RX12 D (tyL g)) (hP : va_P D clL (wM g a M) H) (hdg : decode cc pc = .ok (.getfield 82, 3)) (kk : W p l e R s m args below meth c H locs cells slots Q (F0 m (pc + 3) ls (.int (M 0 12) :: rest))) : W p l e R s m args below meth c H locs cells slots Q (F0 m pc ls (.ref (a 0) :: rest)) := by
  obtain ⟨hx, hb, hr, hml, hown, ht, hlocks, hK, hN⟩ := C
  exact va_get (D := D) (ci := 12) (C := RX12) (T := TX12) (N := 25) hx hb ht giX12 hown hK hP (0) (aM_0 g a M) rfl 12 (by decide) (ht _ wd_744) (fun _ h => h) rfl hdg kk
theorem fp_X12_82 (C : Cx p s m args meth c cc nL rt RX12 D (tyL g)) (hP : va_P D clL (wM g a M) H) (hD : va_D A (wM g a M)) (hS : va_S A H0 H locs) {v : Int32} (hdg : decode cc pc = .ok (.putfield 82, 3)) (kk : ∀ (H1 : Heap) (locs1 : List Loc), va_P D clL (wM g a (up M 0 12 v)) H1 → va_S A H0 H1 locs1 → W p l e R s m args below meth c H1 locs1 cells slots Q (F0 m (pc + 3) ls rest)) : W p l e R s m args below meth c H locs cells slots Q (F0 m pc ls (.int v :: .ref (a 0) :: rest)) := by
  obtain ⟨hx, hb, hr, hml, hown, ht, hlocks, hK, hN⟩ := C
  exact va_put (D := D) (ci := 12) (ty := .int) (C := RX12) (T := TX12) (N := 25) hx hb ht giX12 tyX12 tyX12_ok nmX12 hown hK hP hD hS (0) (aM_0 g a M) rfl 12 (by decide) (ht _ wd_744) (fun _ h => h) rfl (by decide +kernel) rfl rfl (Nat.le_of_ble_eq_true rfl) hdg (fun H1 locs1 h1 _ h3 => kk H1 locs1 (by rw [sM_0_12 g a M v] at h1; exact h1) h3)
theorem fg_X12_103 (C : Cx p s m args meth c cc nL rt RX12 D (tyL g)) (hP : va_P D clL (wM g a M) H) (hdg : decode cc pc = .ok (.getfield 103, 3)) (kk : W p l e R s m args below meth c H locs cells slots Q (F0 m (pc + 3) ls (.int (M 0 13) :: rest))) : W p l e R s m args below meth c H locs cells slots Q (F0 m pc ls (.ref (a 0) :: rest)) := by
  obtain ⟨hx, hb, hr, hml, hown, ht, hlocks, hK, hN⟩ := C
  exact va_get (D := D) (ci := 12) (C := RX12) (T := TX12) (N := 25) hx hb ht giX12 hown hK hP (0) (aM_0 g a M) rfl 13 (by decide) (ht _ wd_745) (fun _ h => h) rfl hdg kk
theorem fp_X12_103 (C : Cx p s m args meth c cc nL rt RX12 D (tyL g)) (hP : va_P D clL (wM g a M) H) (hD : va_D A (wM g a M)) (hS : va_S A H0 H locs) {v : Int32} (hdg : decode cc pc = .ok (.putfield 103, 3)) (kk : ∀ (H1 : Heap) (locs1 : List Loc), va_P D clL (wM g a (up M 0 13 v)) H1 → va_S A H0 H1 locs1 → W p l e R s m args below meth c H1 locs1 cells slots Q (F0 m (pc + 3) ls rest)) : W p l e R s m args below meth c H locs cells slots Q (F0 m pc ls (.int v :: .ref (a 0) :: rest)) := by
  obtain ⟨hx, hb, hr, hml, hown, ht, hlocks, hK, hN⟩ := C
  exact va_put (D := D) (ci := 12) (ty := .int) (C := RX12) (T := TX12) (N := 25) hx hb ht giX12 tyX12 tyX12_ok nmX12 hown hK hP hD hS (0) (aM_0 g a M) rfl 13 (by decide) (ht _ wd_745) (fun _ h => h) rfl (by decide +kernel) rfl rfl (Nat.le_of_ble_eq_true rfl) hdg (fun H1 locs1 h1 _ h3 => kk H1 locs1 (by rw [sM_0_13 g a M v] at h1; exact h1) h3)
theorem fg_X12_106 (C : Cx p s m args meth c cc nL rt RX12 D (tyL g)) (hP : va_P D clL (wM g a M) H) (hdg : decode cc pc = .ok (.getfield 106, 3)) (kk : W p l e R s m args below meth c H locs cells slots Q (F0 m (pc + 3) ls (.int (M 0 14) :: rest))) : W p l e R s m args below meth c H locs cells slots Q (F0 m pc ls (.ref (a 0) :: rest)) := by
  obtain ⟨hx, hb, hr, hml, hown, ht, hlocks, hK, hN⟩ := C
  exact va_get (D := D) (ci := 12) (C := RX12) (T := TX12) (N := 25) hx hb ht giX12 hown hK hP (0) (aM_0 g a M) rfl 14 (by decide) (ht _ wd_746) (fun _ h => h) rfl hdg kk
theorem fp_X12_106 (C : Cx p s m args meth c cc nL rt RX12 D (tyL g)) (hP : va_P D clL (wM g a M) H) (hD : va_D A (wM g a M)) (hS : va_S A H0 H locs) {v : Int32} (hdg : decode cc pc = .ok (.putfield 106, 3)) (kk : ∀ (H1 : Heap) (locs1 : List Loc), va_P D clL (wM g a (up M 0 14 v)) H1 → va_S A H0 H1 locs1 → W p l e R s m args below meth c H1 locs1 cells slots Q (F0 m (pc + 3) ls rest)) : W p l e R s m args below meth c H locs cells slots Q (F0 m pc ls (.int v :: .ref (a 0) :: rest)) := by
  obtain ⟨hx, hb, hr, hml, hown, ht, hlocks, hK, hN⟩ := C
  exact va_put (D := D) (ci := 12) (ty := .int) (C := RX12) (T := TX12) (N := 25) hx hb ht giX12 tyX12 tyX12_ok nmX12 hown hK hP hD hS (0) (aM_0 g a M) rfl 14 (by decide) (ht _ wd_746) (fun _ h => h) rfl (by decide +kernel) rfl rfl (Nat.le_of_ble_eq_true rfl) hdg (fun H1 locs1 h1 _ h3 => kk H1 locs1 (by rw [sM_0_14 g a M v] at h1; exact h1) h3)
theorem fg_X12_34 (C : Cx p s m args meth c cc nL rt RX12 D (tyL g)) (hP : va_P D clL (wM g a M) H) (hdg : decode cc pc = .ok (.getfield 34, 3)) (kk : W p l e R s m args below meth c H locs cells slots Q (F0 m (pc + 3) ls (.ref (a 9) :: rest))) : W p l e R s m args below meth c H locs cells slots Q (F0 m pc ls (.ref (a 0) :: rest)) := by
  obtain ⟨hx, hb, hr, hml, hown, ht, hlocks, hK, hN⟩ := C
  exact va_get (D := D) (ci := 12) (C := RX12) (T := TX12) (N := 25) hx hb ht giX12 hown hK hP (0) (aM_0 g a M) rfl 15 (by decide) (ht _ wd_747) (fun _ h => h) rfl hdg kk
theorem fg_X12_37 (C : Cx p s m args meth c cc nL rt RX12 D (tyL g)) (hP : va_P D clL (wM g a M) H) (hdg : decode cc pc = .ok (.getfield 37, 3)) (kk : W p l e R s m args below meth c H locs cells slots Q (F0 m (pc + 3) ls (.ref (a 10) :: rest))) : W p l e R s m args below meth c H locs cells slots Q (F0 m pc ls (.ref (a 0) :: rest)) := by
  obtain ⟨hx, hb, hr, hml, hown, ht, hlocks, hK, hN⟩ := C
  exact va_get (D := D) (ci := 12) (C := RX12) (T := TX12) (N := 25) hx hb ht giX12 hown hK hP (0) (aM_0 g a M) rfl 16 (by decide) (ht _ wd_748) (fun _ h => h) rfl hdg kk
theorem fg_X12_40 (C : Cx p s m args meth c cc nL rt RX12 D (tyL g)) (hP : va_P D clL (wM g a M) H) (hdg : decode cc pc = .ok (.getfield 40, 3)) (kk : W p l e R s m args below meth c H locs cells slots Q (F0 m (pc + 3) ls (.ref (a 11) :: rest))) : W p l e R s m args below meth c H locs cells slots Q (F0 m pc ls (.ref (a 0) :: rest)) := by
  obtain ⟨hx, hb, hr, hml, hown, ht, hlocks, hK, hN⟩ := C
  exact va_get (D := D) (ci := 12) (C := RX12) (T := TX12) (N := 25) hx hb ht giX12 hown hK hP (0) (aM_0 g a M) rfl 17 (by decide) (ht _ wd_749) (fun _ h => h) rfl hdg kk
theorem fg_X12_43 (C : Cx p s m args meth c cc nL rt RX12 D (tyL g)) (hP : va_P D clL (wM g a M) H) (hdg : decode cc pc = .ok (.getfield 43, 3)) (kk : W p l e R s m args below meth c H locs cells slots Q (F0 m (pc + 3) ls (.ref (a 12) :: rest))) : W p l e R s m args below meth c H locs cells slots Q (F0 m pc ls (.ref (a 0) :: rest)) := by
  obtain ⟨hx, hb, hr, hml, hown, ht, hlocks, hK, hN⟩ := C
  exact va_get (D := D) (ci := 12) (C := RX12) (T := TX12) (N := 25) hx hb ht giX12 hown hK hP (0) (aM_0 g a M) rfl 18 (by decide) (ht _ wd_750) (fun _ h => h) rfl hdg kk
theorem fg_X12_46 (C : Cx p s m args meth c cc nL rt RX12 D (tyL g)) (hP : va_P D clL (wM g a M) H) (hdg : decode cc pc = .ok (.getfield 46, 3)) (kk : W p l e R s m args below meth c H locs cells slots Q (F0 m (pc + 3) ls (.ref (a 13) :: rest))) : W p l e R s m args below meth c H locs cells slots Q (F0 m pc ls (.ref (a 0) :: rest)) := by
  obtain ⟨hx, hb, hr, hml, hown, ht, hlocks, hK, hN⟩ := C
  exact va_get (D := D) (ci := 12) (C := RX12) (T := TX12) (N := 25) hx hb ht giX12 hown hK hP (0) (aM_0 g a M) rfl 19 (by decide) (ht _ wd_751) (fun _ h => h) rfl hdg kk
theorem fg_X12_49 (C : Cx p s m args meth c cc nL rt RX12 D (tyL g)) (hP : va_P D clL (wM g a M) H) (hdg : decode cc pc = .ok (.getfield 49, 3)) (kk : W p l e R s m args below meth c H locs cells slots Q (F0 m (pc + 3) ls (.ref (a 14) :: rest))) : W p l e R s m args below meth c H locs cells slots Q (F0 m pc ls (.ref (a 0) :: rest)) := by
  obtain ⟨hx, hb, hr, hml, hown, ht, hlocks, hK, hN⟩ := C
  exact va_get (D := D) (ci := 12) (C := RX12) (T := TX12) (N := 25) hx hb ht giX12 hown hK hP (0) (aM_0 g a M) rfl 20 (by decide) (ht _ wd_752) (fun _ h => h) rfl hdg kk
theorem fg_X12_109 (C : Cx p s m args meth c cc nL rt RX12 D (tyL g)) (hP : va_P D clL (wM g a M) H) (hdg : decode cc pc = .ok (.getfield 109, 3)) (kk : W p l e R s m args below meth c H locs cells slots Q (F0 m (pc + 3) ls (.int (M 0 21) :: rest))) : W p l e R s m args below meth c H locs cells slots Q (F0 m pc ls (.ref (a 0) :: rest)) := by
  obtain ⟨hx, hb, hr, hml, hown, ht, hlocks, hK, hN⟩ := C
  exact va_get (D := D) (ci := 12) (C := RX12) (T := TX12) (N := 25) hx hb ht giX12 hown hK hP (0) (aM_0 g a M) rfl 21 (by decide) (ht _ wd_753) (fun _ h => h) rfl hdg kk
theorem fp_X12_109 (C : Cx p s m args meth c cc nL rt RX12 D (tyL g)) (hP : va_P D clL (wM g a M) H) (hD : va_D A (wM g a M)) (hS : va_S A H0 H locs) {v : Int32} (hdg : decode cc pc = .ok (.putfield 109, 3)) (kk : ∀ (H1 : Heap) (locs1 : List Loc), va_P D clL (wM g a (up M 0 21 v)) H1 → va_S A H0 H1 locs1 → W p l e R s m args below meth c H1 locs1 cells slots Q (F0 m (pc + 3) ls rest)) : W p l e R s m args below meth c H locs cells slots Q (F0 m pc ls (.int v :: .ref (a 0) :: rest)) := by
  obtain ⟨hx, hb, hr, hml, hown, ht, hlocks, hK, hN⟩ := C
  exact va_put (D := D) (ci := 12) (ty := .int) (C := RX12) (T := TX12) (N := 25) hx hb ht giX12 tyX12 tyX12_ok nmX12 hown hK hP hD hS (0) (aM_0 g a M) rfl 21 (by decide) (ht _ wd_753) (fun _ h => h) rfl (by decide +kernel) rfl rfl (Nat.le_of_ble_eq_true rfl) hdg (fun H1 locs1 h1 _ h3 => kk H1 locs1 (by rw [sM_0_21 g a M v] at h1; exact h1) h3)
theorem fg_X12_53 (C : Cx p s m args meth c cc nL rt RX12 D (tyL g)) (hP : va_P D clL (wM g a M) H) (hdg : decode cc pc = .ok (.getfield 53, 3)) (kk : W p l e R s m args below meth c H locs cells slots Q (F0 m (pc + 3) ls (.ref (a 15) :: rest))) : W p l e R s m args below meth c H locs cells slots Q (F0 m pc ls (.ref (a 0) :: rest)) := by
  obtain ⟨hx, hb, hr, hml, hown, ht, hlocks, hK, hN⟩ := C
  exact va_get (D := D) (ci := 12) (C := RX12) (T := TX12) (N := 25) hx hb ht giX12 hown hK hP (0) (aM_0 g a M) rfl 22 (by decide) (ht _ wd_754) (fun _ h => h) rfl hdg kk
theorem fg_X12_56 (C : Cx p s m args meth c cc nL rt RX12 D (tyL g)) (hP : va_P D clL (wM g a M) H) (hdg : decode cc pc = .ok (.getfield 56, 3)) (kk : W p l e R s m args below meth c H locs cells slots Q (F0 m (pc + 3) ls (.ref (a 16) :: rest))) : W p l e R s m args below meth c H locs cells slots Q (F0 m pc ls (.ref (a 0) :: rest)) := by
  obtain ⟨hx, hb, hr, hml, hown, ht, hlocks, hK, hN⟩ := C
  exact va_get (D := D) (ci := 12) (C := RX12) (T := TX12) (N := 25) hx hb ht giX12 hown hK hP (0) (aM_0 g a M) rfl 23 (by decide) (ht _ wd_755) (fun _ h => h) rfl hdg kk
theorem fg_X12_59 (C : Cx p s m args meth c cc nL rt RX12 D (tyL g)) (hP : va_P D clL (wM g a M) H) (hdg : decode cc pc = .ok (.getfield 59, 3)) (kk : W p l e R s m args below meth c H locs cells slots Q (F0 m (pc + 3) ls (.ref (a 17) :: rest))) : W p l e R s m args below meth c H locs cells slots Q (F0 m pc ls (.ref (a 0) :: rest)) := by
  obtain ⟨hx, hb, hr, hml, hown, ht, hlocks, hK, hN⟩ := C
  exact va_get (D := D) (ci := 12) (C := RX12) (T := TX12) (N := 25) hx hb ht giX12 hown hK hP (0) (aM_0 g a M) rfl 24 (by decide) (ht _ wd_756) (fun _ h => h) rfl hdg kk
end FA
end
