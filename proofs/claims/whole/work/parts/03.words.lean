def R_law : String := "BreathSquareLaw"
/-- the words that keep through calls -/
def gT : List Cond := lw_tbl.filter goodWord
theorem gT_in {w : Cond} (h : w ∈ gT) : w ∈ lw_tbl := (List.mem_filter.mp h).1
theorem lt_1 {w : Cond} (h : w ∈ tables_1_1) : w ∈ lw_tbl := List.mem_append_right _ (show w ∈ tables_1_1 ++ (tables_1_2 ++ (tables_1_3 ++ (tables_1_4 ++ tables_1_5))) from List.mem_append_left _ h)
theorem gt_1 {w : Cond} (h : w ∈ tables_1_1) (g : goodWord w = true) : w ∈ gT := List.mem_filter.mpr ⟨lt_1 h, g⟩
theorem lt_2 {w : Cond} (h : w ∈ tables_1_2) : w ∈ lw_tbl := List.mem_append_right _ (show w ∈ tables_1_1 ++ (tables_1_2 ++ (tables_1_3 ++ (tables_1_4 ++ tables_1_5))) from List.mem_append_right _ (List.mem_append_left _ h))
theorem gt_2 {w : Cond} (h : w ∈ tables_1_2) (g : goodWord w = true) : w ∈ gT := List.mem_filter.mpr ⟨lt_2 h, g⟩
theorem lt_3 {w : Cond} (h : w ∈ tables_1_3) : w ∈ lw_tbl := List.mem_append_right _ (show w ∈ tables_1_1 ++ (tables_1_2 ++ (tables_1_3 ++ (tables_1_4 ++ tables_1_5))) from List.mem_append_right _ (List.mem_append_right _ (List.mem_append_left _ h)))
theorem gt_3 {w : Cond} (h : w ∈ tables_1_3) (g : goodWord w = true) : w ∈ gT := List.mem_filter.mpr ⟨lt_3 h, g⟩
theorem lt_4 {w : Cond} (h : w ∈ tables_1_4) : w ∈ lw_tbl := List.mem_append_right _ (show w ∈ tables_1_1 ++ (tables_1_2 ++ (tables_1_3 ++ (tables_1_4 ++ tables_1_5))) from List.mem_append_right _ (List.mem_append_right _ (List.mem_append_right _ (List.mem_append_left _ h))))
theorem gt_4 {w : Cond} (h : w ∈ tables_1_4) (g : goodWord w = true) : w ∈ gT := List.mem_filter.mpr ⟨lt_4 h, g⟩
theorem lt_5 {w : Cond} (h : w ∈ tables_1_5) : w ∈ lw_tbl := List.mem_append_right _ (show w ∈ tables_1_1 ++ (tables_1_2 ++ (tables_1_3 ++ (tables_1_4 ++ tables_1_5))) from List.mem_append_right _ (List.mem_append_right _ (List.mem_append_right _ (List.mem_append_right _ (h)))))
theorem gt_5 {w : Cond} (h : w ∈ tables_1_5) (g : goodWord w = true) : w ∈ gT := List.mem_filter.mpr ⟨lt_5 h, g⟩
theorem wd_0 : (.initialized R_law : Cond) ∈ gT := gt_1 (List.mem_of_getElem? (i := 0) (by decide +kernel)) rfl
theorem wd_1 : (.initialized RX11 : Cond) ∈ gT := gt_1 (List.mem_of_getElem? (i := 1) (by decide +kernel)) rfl
theorem wd_2 : (.initialized RX8 : Cond) ∈ gT := gt_1 (List.mem_of_getElem? (i := 2) (by decide +kernel)) rfl
theorem wd_3 : (.initialized RX3 : Cond) ∈ gT := gt_1 (List.mem_of_getElem? (i := 3) (by decide +kernel)) rfl
theorem wd_4 : (.initialized RX7 : Cond) ∈ gT := gt_1 (List.mem_of_getElem? (i := 4) (by decide +kernel)) rfl
theorem wd_5 : (.initialized RX0 : Cond) ∈ gT := gt_1 (List.mem_of_getElem? (i := 5) (by decide +kernel)) rfl
theorem wd_6 : (.initialized RX1 : Cond) ∈ gT := gt_1 (List.mem_of_getElem? (i := 6) (by decide +kernel)) rfl
theorem wd_7 : (.initialized RX10 : Cond) ∈ gT := gt_1 (List.mem_of_getElem? (i := 7) (by decide +kernel)) rfl
theorem wd_8 : (.initialized RX4 : Cond) ∈ gT := gt_1 (List.mem_of_getElem? (i := 8) (by decide +kernel)) rfl
theorem wd_9 : (.initialized RX9 : Cond) ∈ gT := gt_1 (List.mem_of_getElem? (i := 9) (by decide +kernel)) rfl
theorem wd_10 : (.initialized RX2 : Cond) ∈ gT := gt_1 (List.mem_of_getElem? (i := 10) (by decide +kernel)) rfl
theorem wd_11 : (.initialized RX5 : Cond) ∈ gT := gt_1 (List.mem_of_getElem? (i := 11) (by decide +kernel)) rfl
theorem wd_12 : (.initialized RX6 : Cond) ∈ gT := gt_1 (List.mem_of_getElem? (i := 12) (by decide +kernel)) rfl
theorem wd_13 : (.initialized RX12 : Cond) ∈ gT := gt_1 (List.mem_of_getElem? (i := 13) (by decide +kernel)) rfl
theorem wd_14 : (.initialized "java/lang/Math" : Cond) ∈ gT := gt_1 (List.mem_of_getElem? (i := 14) (by decide +kernel)) rfl
theorem wd_15 : (.initialized "java/lang/System" : Cond) ∈ gT := gt_1 (List.mem_of_getElem? (i := 15) (by decide +kernel)) rfl
theorem wd_16 : (.classLink R_law 7 RX11 : Cond) ∈ gT := gt_1 (List.mem_of_getElem? (i := 16) (by decide +kernel)) rfl
theorem wd_17 : (.instantiable RX11 9 : Cond) ∈ gT := gt_1 (List.mem_of_getElem? (i := 17) (by decide +kernel)) rfl
theorem wd_18 : (.methodLink R_law 9 yX11_init : Cond) ∈ gT := gt_1 (List.mem_of_getElem? (i := 18) (by decide +kernel)) rfl
theorem wd_19 : (.instanceMethod yX11_init : Cond) ∈ gT := gt_1 (List.mem_of_getElem? (i := 19) (by decide +kernel)) rfl
theorem wd_20 : (.code yX11_init cX11_init 1 none : Cond) ∈ gT := gt_1 (List.mem_of_getElem? (i := 20) (rfl)) rfl
theorem wd_21 : (.methodLink RX11 3 Lib.objectInit : Cond) ∈ gT := gt_1 (List.mem_of_getElem? (i := 21) (by decide +kernel)) rfl
theorem wd_22 : (.instanceMethod Lib.objectInit : Cond) ∈ gT := gt_1 (List.mem_of_getElem? (i := 22) (by decide +kernel)) rfl
theorem wd_23 : (.code Lib.objectInit ⟨#[0xb1]⟩ 1 none : Cond) ∈ gT := gt_1 (List.mem_of_getElem? (i := 23) (rfl)) rfl
theorem wd_24 : (.classLink RX11 9 RX8 : Cond) ∈ gT := gt_1 (List.mem_of_getElem? (i := 24) (by decide +kernel)) rfl
theorem wd_25 : (.instantiable RX8 1 : Cond) ∈ gT := gt_1 (List.mem_of_getElem? (i := 25) (by decide +kernel)) rfl
theorem wn_26 : (.methodLinkNest RX11 11 yX8_init "BreathSquare" : Cond) ∈ lw_tbl := lt_1 (List.mem_of_getElem? (i := 26) (by decide +kernel))
theorem wd_27 : (.instanceMethod yX8_init : Cond) ∈ gT := gt_1 (List.mem_of_getElem? (i := 27) (by decide +kernel)) rfl
theorem wd_28 : (.code yX8_init cX8_init 1 none : Cond) ∈ gT := gt_1 (List.mem_of_getElem? (i := 28) (rfl)) rfl
theorem wd_29 : (.methodLink RX8 1 Lib.objectInit : Cond) ∈ gT := gt_1 (List.mem_of_getElem? (i := 29) (by decide +kernel)) rfl
theorem wd_30 : (.fieldLink RX8 7 "BreathSquare$Trace" "left" "I" : Cond) ∈ gT := gt_1 (List.mem_of_getElem? (i := 30) (by decide +kernel)) rfl
theorem wn_31 : (.fieldLinkNest RX11 281 "BreathSquare$Trace" "left" "I" "BreathSquare" : Cond) ∈ lw_tbl := lt_1 (List.mem_of_getElem? (i := 31) (by decide +kernel))
theorem wd_34 : (.superclass RX8 "java/lang/Object" : Cond) ∈ gT := gt_1 (List.mem_of_getElem? (i := 34) (by decide +kernel)) rfl
theorem wd_35 : (.classLink RX11 18 RX3 : Cond) ∈ gT := gt_1 (List.mem_of_getElem? (i := 35) (by decide +kernel)) rfl
theorem wd_36 : (.instantiable RX3 10 : Cond) ∈ gT := gt_1 (List.mem_of_getElem? (i := 36) (by decide +kernel)) rfl
theorem wn_37 : (.methodLinkNest RX11 20 yX3_init "BreathSquare" : Cond) ∈ lw_tbl := lt_1 (List.mem_of_getElem? (i := 37) (by decide +kernel))
theorem wd_38 : (.instanceMethod yX3_init : Cond) ∈ gT := gt_1 (List.mem_of_getElem? (i := 38) (by decide +kernel)) rfl
theorem wd_39 : (.code yX3_init cX3_init 1 none : Cond) ∈ gT := gt_1 (List.mem_of_getElem? (i := 39) (rfl)) rfl
theorem wd_40 : (.methodLink RX3 3 Lib.objectInit : Cond) ∈ gT := gt_1 (List.mem_of_getElem? (i := 40) (by decide +kernel)) rfl
theorem wd_41 : (.classLink RX3 9 RX7 : Cond) ∈ gT := gt_1 (List.mem_of_getElem? (i := 41) (by decide +kernel)) rfl
theorem wn_42 : (.arrayOver (.object "BreathSquare$Stone") : Cond) ∈ lw_tbl := lt_1 (List.mem_of_getElem? (i := 42) (by decide +kernel))
theorem wd_43 : (.instantiable RX7 0 : Cond) ∈ gT := gt_1 (List.mem_of_getElem? (i := 43) (by decide +kernel)) rfl
theorem wn_44 : (.methodLinkNest RX3 11 yX7_init "BreathSquare" : Cond) ∈ lw_tbl := lt_1 (List.mem_of_getElem? (i := 44) (by decide +kernel))
theorem wd_45 : (.instanceMethod yX7_init : Cond) ∈ gT := gt_1 (List.mem_of_getElem? (i := 45) (by decide +kernel)) rfl
theorem wd_46 : (.code yX7_init cX7_init 1 none : Cond) ∈ gT := gt_1 (List.mem_of_getElem? (i := 46) (rfl)) rfl
theorem wd_47 : (.methodLink RX7 1 Lib.objectInit : Cond) ∈ gT := gt_1 (List.mem_of_getElem? (i := 47) (by decide +kernel)) rfl
theorem wd_48 : (.superclass RX7 "java/lang/Object" : Cond) ∈ gT := gt_1 (List.mem_of_getElem? (i := 48) (by decide +kernel)) rfl
theorem wd_49 : (.classLink RX3 12 RX0 : Cond) ∈ gT := gt_1 (List.mem_of_getElem? (i := 49) (by decide +kernel)) rfl
theorem wd_50 : (.instantiable RX0 0 : Cond) ∈ gT := gt_1 (List.mem_of_getElem? (i := 50) (by decide +kernel)) rfl
theorem wn_51 : (.methodLinkNest RX3 14 yX0_init "BreathSquare" : Cond) ∈ lw_tbl := lt_1 (List.mem_of_getElem? (i := 51) (by decide +kernel))
theorem wd_52 : (.instanceMethod yX0_init : Cond) ∈ gT := gt_1 (List.mem_of_getElem? (i := 52) (by decide +kernel)) rfl
theorem wd_53 : (.code yX0_init cX0_init 1 none : Cond) ∈ gT := gt_1 (List.mem_of_getElem? (i := 53) (rfl)) rfl
theorem wn_54 : (.methodLinkNest RX0 1 yX7_init "BreathSquare" : Cond) ∈ lw_tbl := lt_1 (List.mem_of_getElem? (i := 54) (by decide +kernel))
theorem wd_55 : (.superclass RX0 RX7 : Cond) ∈ gT := gt_1 (List.mem_of_getElem? (i := 55) (by decide +kernel)) rfl
theorem wd_56 : (.classLink RX3 15 RX1 : Cond) ∈ gT := gt_1 (List.mem_of_getElem? (i := 56) (by decide +kernel)) rfl
theorem wd_57 : (.instantiable RX1 0 : Cond) ∈ gT := gt_1 (List.mem_of_getElem? (i := 57) (by decide +kernel)) rfl
theorem wn_58 : (.methodLinkNest RX3 17 yX1_init "BreathSquare" : Cond) ∈ lw_tbl := lt_1 (List.mem_of_getElem? (i := 58) (by decide +kernel))
theorem wd_59 : (.instanceMethod yX1_init : Cond) ∈ gT := gt_1 (List.mem_of_getElem? (i := 59) (by decide +kernel)) rfl
theorem wd_60 : (.code yX1_init cX1_init 1 none : Cond) ∈ gT := gt_1 (List.mem_of_getElem? (i := 60) (rfl)) rfl
theorem wn_61 : (.methodLinkNest RX1 1 yX0_init "BreathSquare" : Cond) ∈ lw_tbl := lt_1 (List.mem_of_getElem? (i := 61) (by decide +kernel))
theorem wd_62 : (.superclass RX1 RX0 : Cond) ∈ gT := gt_1 (List.mem_of_getElem? (i := 62) (by decide +kernel)) rfl
theorem wd_63 : (.fieldLink RX3 18 "BreathSquare$Paving" "bodies" "[LBreathSquare$Stone;" : Cond) ∈ gT := gt_1 (List.mem_of_getElem? (i := 63) (by decide +kernel)) rfl
theorem wd_64 : (.fieldLink RX3 24 "BreathSquare$Paving" "kindOf" "[I" : Cond) ∈ gT := gt_1 (List.mem_of_getElem? (i := 64) (by decide +kernel)) rfl
theorem wn_65 : (.fieldLinkNest RX11 109 "BreathSquare$Paving" "kindOf" "[I" "BreathSquare" : Cond) ∈ lw_tbl := lt_1 (List.mem_of_getElem? (i := 65) (by decide +kernel))
theorem wd_66 : (.fieldLink RX3 28 "BreathSquare$Paving" "ground" "[I" : Cond) ∈ gT := gt_1 (List.mem_of_getElem? (i := 66) (by decide +kernel)) rfl
theorem wn_67 : (.fieldLinkNest RX11 113 "BreathSquare$Paving" "ground" "[I" "BreathSquare" : Cond) ∈ lw_tbl := lt_1 (List.mem_of_getElem? (i := 67) (by decide +kernel))
theorem wd_68 : (.fieldLink RX3 31 "BreathSquare$Paving" "lifted" "[I" : Cond) ∈ gT := gt_1 (List.mem_of_getElem? (i := 68) (by decide +kernel)) rfl
theorem wn_69 : (.fieldLinkNest RX11 116 "BreathSquare$Paving" "lifted" "[I" "BreathSquare" : Cond) ∈ lw_tbl := lt_1 (List.mem_of_getElem? (i := 69) (by decide +kernel))
theorem wd_70 : (.fieldLink RX3 34 "BreathSquare$Paving" "rowOf" "[I" : Cond) ∈ gT := gt_1 (List.mem_of_getElem? (i := 70) (by decide +kernel)) rfl
theorem wn_71 : (.fieldLinkNest RX4 67 "BreathSquare$Paving" "rowOf" "[I" "BreathSquare" : Cond) ∈ lw_tbl := lt_1 (List.mem_of_getElem? (i := 71) (by decide +kernel))
theorem wd_72 : (.fieldLink RX3 37 "BreathSquare$Paving" "columnOf" "[I" : Cond) ∈ gT := gt_1 (List.mem_of_getElem? (i := 72) (by decide +kernel)) rfl
theorem wn_73 : (.fieldLinkNest RX4 73 "BreathSquare$Paving" "columnOf" "[I" "BreathSquare" : Cond) ∈ lw_tbl := lt_1 (List.mem_of_getElem? (i := 73) (by decide +kernel))
theorem wd_74 : (.fieldLink RX3 40 "BreathSquare$Paving" "wet" "[I" : Cond) ∈ gT := gt_1 (List.mem_of_getElem? (i := 74) (by decide +kernel)) rfl
theorem wn_75 : (.fieldLinkNest RX11 130 "BreathSquare$Paving" "wet" "[I" "BreathSquare" : Cond) ∈ lw_tbl := lt_1 (List.mem_of_getElem? (i := 75) (by decide +kernel))
theorem wd_76 : (.fieldLink RX3 43 "BreathSquare$Paving" "frost" "[I" : Cond) ∈ gT := gt_1 (List.mem_of_getElem? (i := 76) (by decide +kernel)) rfl
theorem wn_77 : (.fieldLinkNest RX11 133 "BreathSquare$Paving" "frost" "[I" "BreathSquare" : Cond) ∈ lw_tbl := lt_1 (List.mem_of_getElem? (i := 77) (by decide +kernel))
theorem wd_78 : (.fieldLink RX3 69 "BreathSquare$Paving" "high" "I" : Cond) ∈ gT := gt_1 (List.mem_of_getElem? (i := 78) (by decide +kernel)) rfl
theorem wn_79 : (.fieldLinkNest RX4 28 "BreathSquare$Paving" "wide" "I" "BreathSquare" : Cond) ∈ lw_tbl := lt_1 (List.mem_of_getElem? (i := 79) (by decide +kernel))
theorem wd_80 : (.fieldLink RX3 73 "BreathSquare$Paving" "wide" "I" : Cond) ∈ gT := gt_1 (List.mem_of_getElem? (i := 80) (by decide +kernel)) rfl
theorem wn_81 : (.fieldLinkNest RX11 284 "BreathSquare$Paving" "wide" "I" "BreathSquare" : Cond) ∈ lw_tbl := lt_1 (List.mem_of_getElem? (i := 81) (by decide +kernel))
theorem wd_102 : (.superclass RX3 "java/lang/Object" : Cond) ∈ gT := gt_1 (List.mem_of_getElem? (i := 102) (by decide +kernel)) rfl
theorem wd_103 : (.arrayClass .int : Cond) ∈ gT := gt_1 (List.mem_of_getElem? (i := 103) (by decide +kernel)) rfl
theorem wd_104 : (.classLink RX11 25 RX10 : Cond) ∈ gT := gt_1 (List.mem_of_getElem? (i := 104) (by decide +kernel)) rfl
theorem wd_105 : (.instantiable RX10 6 : Cond) ∈ gT := gt_1 (List.mem_of_getElem? (i := 105) (by decide +kernel)) rfl
theorem wd_106 : (.methodLink RX11 27 yX10_init : Cond) ∈ gT := gt_1 (List.mem_of_getElem? (i := 106) (by decide +kernel)) rfl
theorem wd_107 : (.instanceMethod yX10_init : Cond) ∈ gT := gt_1 (List.mem_of_getElem? (i := 107) (by decide +kernel)) rfl
theorem wd_108 : (.code yX10_init cX10_init 2 none : Cond) ∈ gT := gt_1 (List.mem_of_getElem? (i := 108) (rfl)) rfl
theorem wd_109 : (.methodLink RX10 3 Lib.objectInit : Cond) ∈ gT := gt_1 (List.mem_of_getElem? (i := 109) (by decide +kernel)) rfl
theorem wd_110 : (.fieldLink RX10 27 "BreathSquare$Ways" "paving" "LBreathSquare$Paving;" : Cond) ∈ gT := gt_1 (List.mem_of_getElem? (i := 110) (by decide +kernel)) rfl
theorem wd_111 : (.fieldLink RX10 9 "BreathSquare$Ways" "heights" "[I" : Cond) ∈ gT := gt_1 (List.mem_of_getElem? (i := 111) (by decide +kernel)) rfl
theorem wd_112 : (.fieldLink RX10 15 "BreathSquare$Ways" "stepRight" "[I" : Cond) ∈ gT := gt_1 (List.mem_of_getElem? (i := 112) (by decide +kernel)) rfl
theorem wd_113 : (.fieldLink RX10 18 "BreathSquare$Ways" "stepDown" "[I" : Cond) ∈ gT := gt_1 (List.mem_of_getElem? (i := 113) (by decide +kernel)) rfl
theorem wd_114 : (.fieldLink RX10 21 "BreathSquare$Ways" "steps" "[I" : Cond) ∈ gT := gt_1 (List.mem_of_getElem? (i := 114) (by decide +kernel)) rfl
theorem wn_115 : (.fieldLinkNest RX11 156 "BreathSquare$Ways" "steps" "[I" "BreathSquare" : Cond) ∈ lw_tbl := lt_1 (List.mem_of_getElem? (i := 115) (by decide +kernel))
theorem wd_116 : (.fieldLink RX10 24 "BreathSquare$Ways" "queue" "[I" : Cond) ∈ gT := gt_1 (List.mem_of_getElem? (i := 116) (by decide +kernel)) rfl
theorem wd_129 : (.superclass RX10 "java/lang/Object" : Cond) ∈ gT := gt_1 (List.mem_of_getElem? (i := 129) (by decide +kernel)) rfl
theorem wd_130 : (.classLink RX11 34 RX4 : Cond) ∈ gT := gt_1 (List.mem_of_getElem? (i := 130) (by decide +kernel)) rfl
theorem wd_131 : (.instantiable RX4 6 : Cond) ∈ gT := gt_1 (List.mem_of_getElem? (i := 131) (by decide +kernel)) rfl
theorem wd_132 : (.methodLink RX11 36 yX4_init : Cond) ∈ gT := gt_1 (List.mem_of_getElem? (i := 132) (by decide +kernel)) rfl
theorem wd_133 : (.instanceMethod yX4_init : Cond) ∈ gT := gt_1 (List.mem_of_getElem? (i := 133) (by decide +kernel)) rfl
theorem wd_134 : (.code yX4_init cX4_init 2 none : Cond) ∈ gT := gt_1 (List.mem_of_getElem? (i := 134) (rfl)) rfl
theorem wd_135 : (.methodLink RX4 3 Lib.objectInit : Cond) ∈ gT := gt_1 (List.mem_of_getElem? (i := 135) (by decide +kernel)) rfl
theorem wd_136 : (.fieldLink RX4 18 "BreathSquare$Places" "paving" "LBreathSquare$Paving;" : Cond) ∈ gT := gt_1 (List.mem_of_getElem? (i := 136) (by decide +kernel)) rfl
theorem wd_137 : (.fieldLink RX4 9 "BreathSquare$Places" "heights" "[I" : Cond) ∈ gT := gt_1 (List.mem_of_getElem? (i := 137) (by decide +kernel)) rfl
theorem wd_138 : (.fieldLink RX4 15 "BreathSquare$Places" "wedgesOf" "[I" : Cond) ∈ gT := gt_1 (List.mem_of_getElem? (i := 138) (by decide +kernel)) rfl
theorem wd_139 : (.fieldLink RX4 50 "BreathSquare$Places" "first" "I" : Cond) ∈ gT := gt_1 (List.mem_of_getElem? (i := 139) (by decide +kernel)) rfl
theorem wn_140 : (.fieldLinkNest RX11 188 "BreathSquare$Places" "first" "I" "BreathSquare" : Cond) ∈ lw_tbl := lt_1 (List.mem_of_getElem? (i := 140) (by decide +kernel))
theorem wd_141 : (.fieldLink RX4 53 "BreathSquare$Places" "second" "I" : Cond) ∈ gT := gt_1 (List.mem_of_getElem? (i := 141) (by decide +kernel)) rfl
theorem wn_142 : (.fieldLinkNest RX11 191 "BreathSquare$Places" "second" "I" "BreathSquare" : Cond) ∈ lw_tbl := lt_1 (List.mem_of_getElem? (i := 142) (by decide +kernel))
theorem wd_143 : (.fieldLink RX4 56 "BreathSquare$Places" "together" "I" : Cond) ∈ gT := gt_1 (List.mem_of_getElem? (i := 143) (by decide +kernel)) rfl
theorem wn_144 : (.fieldLinkNest RX11 185 "BreathSquare$Places" "together" "I" "BreathSquare" : Cond) ∈ lw_tbl := lt_1 (List.mem_of_getElem? (i := 144) (by decide +kernel))
theorem wd_157 : (.superclass RX4 "java/lang/Object" : Cond) ∈ gT := gt_1 (List.mem_of_getElem? (i := 157) (by decide +kernel)) rfl
theorem wd_158 : (.classLink RX11 41 RX9 : Cond) ∈ gT := gt_1 (List.mem_of_getElem? (i := 158) (by decide +kernel)) rfl
theorem wd_159 : (.instantiable RX9 3 : Cond) ∈ gT := gt_1 (List.mem_of_getElem? (i := 159) (by decide +kernel)) rfl
theorem wd_160 : (.methodLink RX11 43 yX9_init : Cond) ∈ gT := gt_1 (List.mem_of_getElem? (i := 160) (by decide +kernel)) rfl
theorem wd_161 : (.instanceMethod yX9_init : Cond) ∈ gT := gt_1 (List.mem_of_getElem? (i := 161) (by decide +kernel)) rfl
theorem wd_162 : (.code yX9_init cX9_init 2 none : Cond) ∈ gT := gt_1 (List.mem_of_getElem? (i := 162) (rfl)) rfl
theorem wd_163 : (.methodLink RX9 3 Lib.objectInit : Cond) ∈ gT := gt_1 (List.mem_of_getElem? (i := 163) (by decide +kernel)) rfl
theorem wd_164 : (.fieldLink RX9 18 "BreathSquare$Water" "paving" "LBreathSquare$Paving;" : Cond) ∈ gT := gt_1 (List.mem_of_getElem? (i := 164) (by decide +kernel)) rfl
theorem wd_165 : (.fieldLink RX9 9 "BreathSquare$Water" "heights" "[I" : Cond) ∈ gT := gt_1 (List.mem_of_getElem? (i := 165) (by decide +kernel)) rfl
theorem wd_166 : (.fieldLink RX9 15 "BreathSquare$Water" "levels" "[I" : Cond) ∈ gT := gt_1 (List.mem_of_getElem? (i := 166) (by decide +kernel)) rfl
theorem wd_173 : (.superclass RX9 "java/lang/Object" : Cond) ∈ gT := gt_1 (List.mem_of_getElem? (i := 173) (by decide +kernel)) rfl
theorem wd_174 : (.classLink RX11 48 RX2 : Cond) ∈ gT := gt_1 (List.mem_of_getElem? (i := 174) (by decide +kernel)) rfl
theorem wd_175 : (.instantiable RX2 2 : Cond) ∈ gT := gt_1 (List.mem_of_getElem? (i := 175) (by decide +kernel)) rfl
theorem wd_176 : (.methodLink RX11 50 yX2_init : Cond) ∈ gT := gt_1 (List.mem_of_getElem? (i := 176) (by decide +kernel)) rfl
theorem wd_177 : (.instanceMethod yX2_init : Cond) ∈ gT := gt_1 (List.mem_of_getElem? (i := 177) (by decide +kernel)) rfl
theorem wd_178 : (.code yX2_init cX2_init 2 none : Cond) ∈ gT := gt_1 (List.mem_of_getElem? (i := 178) (rfl)) rfl
theorem wd_179 : (.methodLink RX2 3 Lib.objectInit : Cond) ∈ gT := gt_1 (List.mem_of_getElem? (i := 179) (by decide +kernel)) rfl
theorem wd_180 : (.fieldLink RX2 15 "BreathSquare$Mason" "paving" "LBreathSquare$Paving;" : Cond) ∈ gT := gt_1 (List.mem_of_getElem? (i := 180) (by decide +kernel)) rfl
theorem wd_181 : (.fieldLink RX2 9 "BreathSquare$Mason" "ranks" "[I" : Cond) ∈ gT := gt_1 (List.mem_of_getElem? (i := 181) (by decide +kernel)) rfl
theorem wd_186 : (.superclass RX2 "java/lang/Object" : Cond) ∈ gT := gt_1 (List.mem_of_getElem? (i := 186) (by decide +kernel)) rfl
theorem wd_187 : (.classLink RX11 55 RX5 : Cond) ∈ gT := gt_1 (List.mem_of_getElem? (i := 187) (by decide +kernel)) rfl
theorem wd_188 : (.instantiable RX5 5 : Cond) ∈ gT := gt_1 (List.mem_of_getElem? (i := 188) (by decide +kernel)) rfl
theorem wd_189 : (.methodLink RX11 57 yX5_init : Cond) ∈ gT := gt_1 (List.mem_of_getElem? (i := 189) (by decide +kernel)) rfl
theorem wd_190 : (.instanceMethod yX5_init : Cond) ∈ gT := gt_1 (List.mem_of_getElem? (i := 190) (by decide +kernel)) rfl
theorem wd_191 : (.code yX5_init cX5_init 2 none : Cond) ∈ gT := gt_1 (List.mem_of_getElem? (i := 191) (rfl)) rfl
theorem wd_192 : (.methodLink RX5 3 Lib.objectInit : Cond) ∈ gT := gt_1 (List.mem_of_getElem? (i := 192) (by decide +kernel)) rfl
theorem wd_193 : (.fieldLink RX5 21 "BreathSquare$Readings" "paving" "LBreathSquare$Paving;" : Cond) ∈ gT := gt_1 (List.mem_of_getElem? (i := 193) (by decide +kernel)) rfl
theorem wd_194 : (.fieldLink RX5 9 "BreathSquare$Readings" "stoneOf" "[I" : Cond) ∈ gT := gt_1 (List.mem_of_getElem? (i := 194) (by decide +kernel)) rfl
theorem wd_195 : (.fieldLink RX5 15 "BreathSquare$Readings" "monthOf" "[I" : Cond) ∈ gT := gt_1 (List.mem_of_getElem? (i := 195) (by decide +kernel)) rfl
theorem wd_196 : (.fieldLink RX5 18 "BreathSquare$Readings" "heightRead" "[I" : Cond) ∈ gT := gt_1 (List.mem_of_getElem? (i := 196) (by decide +kernel)) rfl
theorem wd_197 : (.fieldLink RX5 25 "BreathSquare$Readings" "count" "I" : Cond) ∈ gT := gt_1 (List.mem_of_getElem? (i := 197) (by decide +kernel)) rfl
theorem wn_198 : (.fieldLinkNest RX11 230 "BreathSquare$Readings" "count" "I" "BreathSquare" : Cond) ∈ lw_tbl := lt_1 (List.mem_of_getElem? (i := 198) (by decide +kernel))
theorem wd_209 : (.superclass RX5 "java/lang/Object" : Cond) ∈ gT := gt_1 (List.mem_of_getElem? (i := 209) (by decide +kernel)) rfl
theorem wd_210 : (.classLink RX11 62 RX6 : Cond) ∈ gT := gt_1 (List.mem_of_getElem? (i := 210) (by decide +kernel)) rfl
theorem wn_211 : (.arrayOver (.object "BreathSquare$Sheet") : Cond) ∈ lw_tbl := lt_1 (List.mem_of_getElem? (i := 211) (by decide +kernel))
theorem wd_212 : (.instantiable RX6 3 : Cond) ∈ gT := gt_1 (List.mem_of_getElem? (i := 212) (by decide +kernel)) rfl
theorem wn_213 : (.methodLinkNest RX11 64 yX6_init "BreathSquare" : Cond) ∈ lw_tbl := lt_1 (List.mem_of_getElem? (i := 213) (by decide +kernel))
theorem wd_214 : (.instanceMethod yX6_init : Cond) ∈ gT := gt_1 (List.mem_of_getElem? (i := 214) (by decide +kernel)) rfl
theorem wd_215 : (.code yX6_init cX6_init 1 none : Cond) ∈ gT := gt_1 (List.mem_of_getElem? (i := 215) (rfl)) rfl
theorem wd_216 : (.methodLink RX6 3 Lib.objectInit : Cond) ∈ gT := gt_1 (List.mem_of_getElem? (i := 216) (by decide +kernel)) rfl
theorem wd_217 : (.fieldLink RX6 9 "BreathSquare$Sheet" "cells" "[I" : Cond) ∈ gT := gt_1 (List.mem_of_getElem? (i := 217) (by decide +kernel)) rfl
theorem wn_218 : (.fieldLinkNest RX3 46 "BreathSquare$Sheet" "cells" "[I" "BreathSquare" : Cond) ∈ lw_tbl := lt_1 (List.mem_of_getElem? (i := 218) (by decide +kernel))
theorem wn_219 : (.fieldLinkNest RX11 256 "BreathSquare$Sheet" "cells" "[I" "BreathSquare" : Cond) ∈ lw_tbl := lt_1 (List.mem_of_getElem? (i := 219) (by decide +kernel))
theorem wd_220 : (.fieldLink RX6 15 "BreathSquare$Sheet" "sort" "I" : Cond) ∈ gT := gt_1 (List.mem_of_getElem? (i := 220) (by decide +kernel)) rfl
theorem wn_221 : (.fieldLinkNest RX11 259 "BreathSquare$Sheet" "sort" "I" "BreathSquare" : Cond) ∈ lw_tbl := lt_1 (List.mem_of_getElem? (i := 221) (by decide +kernel))
theorem wd_222 : (.fieldLink RX6 23 "BreathSquare$Sheet" "length" "I" : Cond) ∈ gT := gt_1 (List.mem_of_getElem? (i := 222) (by decide +kernel)) rfl
theorem wd_229 : (.superclass RX6 "java/lang/Object" : Cond) ∈ gT := gt_1 (List.mem_of_getElem? (i := 229) (by decide +kernel)) rfl
theorem wd_230 : (.fieldLink RX11 12 "BreathSquare" "traces" "LBreathSquare$Trace;" : Cond) ∈ gT := gt_1 (List.mem_of_getElem? (i := 230) (by decide +kernel)) rfl
theorem wd_231 : (.fieldLink RX11 21 "BreathSquare" "paving" "LBreathSquare$Paving;" : Cond) ∈ gT := gt_1 (List.mem_of_getElem? (i := 231) (by decide +kernel)) rfl
theorem wd_232 : (.fieldLink RX11 30 "BreathSquare" "ways" "LBreathSquare$Ways;" : Cond) ∈ gT := gt_1 (List.mem_of_getElem? (i := 232) (by decide +kernel)) rfl
theorem wd_233 : (.fieldLink RX11 37 "BreathSquare" "places" "LBreathSquare$Places;" : Cond) ∈ gT := gt_1 (List.mem_of_getElem? (i := 233) (by decide +kernel)) rfl
theorem wd_234 : (.fieldLink RX11 44 "BreathSquare" "water" "LBreathSquare$Water;" : Cond) ∈ gT := gt_1 (List.mem_of_getElem? (i := 234) (by decide +kernel)) rfl
theorem wd_235 : (.fieldLink RX11 51 "BreathSquare" "mason" "LBreathSquare$Mason;" : Cond) ∈ gT := gt_1 (List.mem_of_getElem? (i := 235) (by decide +kernel)) rfl
theorem wd_236 : (.fieldLink RX11 58 "BreathSquare" "readings" "LBreathSquare$Readings;" : Cond) ∈ gT := gt_1 (List.mem_of_getElem? (i := 236) (by decide +kernel)) rfl
theorem wd_237 : (.fieldLink RX11 65 "BreathSquare" "sheets" "[LBreathSquare$Sheet;" : Cond) ∈ gT := gt_1 (List.mem_of_getElem? (i := 237) (by decide +kernel)) rfl
theorem wd_238 : (.fieldLink RX11 69 "BreathSquare" "latestFault" "I" : Cond) ∈ gT := gt_1 (List.mem_of_getElem? (i := 238) (by decide +kernel)) rfl
theorem wd_257 : (.superclass RX11 "java/lang/Object" : Cond) ∈ gT := gt_2 (List.mem_of_getElem? (i := 17) (by decide +kernel)) rfl
theorem wd_258 : (.methodLink R_law 13 yX11_square : Cond) ∈ gT := gt_2 (List.mem_of_getElem? (i := 18) (by decide +kernel)) rfl
theorem wd_259 : (.instanceMethod yX11_square : Cond) ∈ gT := gt_2 (List.mem_of_getElem? (i := 19) (by decide +kernel)) rfl
theorem wd_260 : (.selects RX11 yX11_square yX11_square : Cond) ∈ gT := gt_2 (List.mem_of_getElem? (i := 20) (by decide +kernel)) rfl
theorem wd_261 : (.code yX11_square cX11_square 8 (some .int) : Cond) ∈ gT := gt_2 (List.mem_of_getElem? (i := 21) (rfl)) rfl
theorem wd_262 : (.methodLink RX11 73 yX11_isSheet : Cond) ∈ gT := gt_2 (List.mem_of_getElem? (i := 22) (by decide +kernel)) rfl
theorem wd_263 : (.static yX11_isSheet : Cond) ∈ gT := gt_2 (List.mem_of_getElem? (i := 23) (by decide +kernel)) rfl
theorem wd_264 : (.code yX11_isSheet cX11_isSheet 1 (some .boolean) : Cond) ∈ gT := gt_2 (List.mem_of_getElem? (i := 24) (rfl)) rfl
theorem wd_265 : (.methodLink RX11 122 yX11_isWithin : Cond) ∈ gT := gt_2 (List.mem_of_getElem? (i := 25) (by decide +kernel)) rfl
theorem wd_266 : (.static yX11_isWithin : Cond) ∈ gT := gt_2 (List.mem_of_getElem? (i := 26) (by decide +kernel)) rfl
theorem wd_267 : (.code yX11_isWithin cX11_isWithin 3 (some .boolean) : Cond) ∈ gT := gt_2 (List.mem_of_getElem? (i := 27) (rfl)) rfl
theorem wd_268 : (.methodLink RX11 77 yX11_isSort : Cond) ∈ gT := gt_2 (List.mem_of_getElem? (i := 28) (by decide +kernel)) rfl
theorem wd_269 : (.static yX11_isSort : Cond) ∈ gT := gt_2 (List.mem_of_getElem? (i := 29) (by decide +kernel)) rfl
theorem wd_270 : (.code yX11_isSort cX11_isSort 1 (some .boolean) : Cond) ∈ gT := gt_2 (List.mem_of_getElem? (i := 30) (rfl)) rfl
theorem wd_271 : (.methodLink RX11 80 yX6_faultAs : Cond) ∈ gT := gt_2 (List.mem_of_getElem? (i := 31) (by decide +kernel)) rfl
theorem wd_272 : (.instanceMethod yX6_faultAs : Cond) ∈ gT := gt_2 (List.mem_of_getElem? (i := 32) (by decide +kernel)) rfl
theorem wd_273 : (.selects RX6 yX6_faultAs yX6_faultAs : Cond) ∈ gT := gt_2 (List.mem_of_getElem? (i := 33) (by decide +kernel)) rfl
theorem wd_274 : (.code yX6_faultAs cX6_faultAs 2 (some .int) : Cond) ∈ gT := gt_2 (List.mem_of_getElem? (i := 34) (rfl)) rfl
theorem wd_275 : (.methodLink RX6 19 yX6_isNothing : Cond) ∈ gT := gt_2 (List.mem_of_getElem? (i := 35) (by decide +kernel)) rfl
theorem wd_276 : (.instanceMethod yX6_isNothing : Cond) ∈ gT := gt_2 (List.mem_of_getElem? (i := 36) (by decide +kernel)) rfl
theorem wd_277 : (.selects RX6 yX6_isNothing yX6_isNothing : Cond) ∈ gT := gt_2 (List.mem_of_getElem? (i := 37) (by decide +kernel)) rfl
theorem wd_278 : (.code yX6_isNothing cX6_isNothing 1 (some .boolean) : Cond) ∈ gT := gt_2 (List.mem_of_getElem? (i := 38) (rfl)) rfl
theorem wd_279 : (.methodLink RX11 84 yX11_failed : Cond) ∈ gT := gt_2 (List.mem_of_getElem? (i := 39) (by decide +kernel)) rfl
theorem wd_281 : (.instanceMethod yX11_failed : Cond) ∈ gT := gt_2 (List.mem_of_getElem? (i := 41) (by decide +kernel)) rfl
theorem wd_282 : (.code yX11_failed cX11_failed 2 (some .int) : Cond) ∈ gT := gt_2 (List.mem_of_getElem? (i := 42) (rfl)) rfl
theorem wd_283 : (.methodLink RX11 87 yX6_hasCells : Cond) ∈ gT := gt_2 (List.mem_of_getElem? (i := 43) (by decide +kernel)) rfl
theorem wd_284 : (.instanceMethod yX6_hasCells : Cond) ∈ gT := gt_2 (List.mem_of_getElem? (i := 44) (by decide +kernel)) rfl
theorem wd_285 : (.selects RX6 yX6_hasCells yX6_hasCells : Cond) ∈ gT := gt_2 (List.mem_of_getElem? (i := 45) (by decide +kernel)) rfl
theorem wd_286 : (.code yX6_hasCells cX6_hasCells 3 (some .boolean) : Cond) ∈ gT := gt_2 (List.mem_of_getElem? (i := 46) (rfl)) rfl
theorem wd_287 : (.methodLink RX11 91 yX3_firstFault : Cond) ∈ gT := gt_2 (List.mem_of_getElem? (i := 47) (by decide +kernel)) rfl
theorem wd_288 : (.static yX3_firstFault : Cond) ∈ gT := gt_2 (List.mem_of_getElem? (i := 48) (by decide +kernel)) rfl
theorem wd_289 : (.code yX3_firstFault cX3_firstFault 9 (some .int) : Cond) ∈ gT := gt_2 (List.mem_of_getElem? (i := 49) (rfl)) rfl
theorem wd_290 : (.methodLink RX3 51 yX3_fitsHead : Cond) ∈ gT := gt_2 (List.mem_of_getElem? (i := 50) (by decide +kernel)) rfl
theorem wd_291 : (.static yX3_fitsHead : Cond) ∈ gT := gt_2 (List.mem_of_getElem? (i := 51) (by decide +kernel)) rfl
theorem wd_292 : (.code yX3_fitsHead cX3_fitsHead 2 (some .boolean) : Cond) ∈ gT := gt_2 (List.mem_of_getElem? (i := 52) (rfl)) rfl
theorem wn_293 : (.methodLinkNest RX3 63 yX11_isWithin "BreathSquare" : Cond) ∈ lw_tbl := lt_2 (List.mem_of_getElem? (i := 53) (by decide +kernel))
theorem wd_294 : (.methodLink RX3 55 yX3_fitsRow : Cond) ∈ gT := gt_2 (List.mem_of_getElem? (i := 54) (by decide +kernel)) rfl
theorem wd_295 : (.static yX3_fitsRow : Cond) ∈ gT := gt_2 (List.mem_of_getElem? (i := 55) (by decide +kernel)) rfl
theorem wd_296 : (.code yX3_fitsRow cX3_fitsRow 4 (some .boolean) : Cond) ∈ gT := gt_2 (List.mem_of_getElem? (i := 56) (rfl)) rfl
theorem wd_297 : (.methodLink RX3 59 yX3_rowLength : Cond) ∈ gT := gt_2 (List.mem_of_getElem? (i := 57) (by decide +kernel)) rfl
theorem wd_298 : (.static yX3_rowLength : Cond) ∈ gT := gt_2 (List.mem_of_getElem? (i := 58) (by decide +kernel)) rfl
theorem wd_299 : (.code yX3_rowLength cX3_rowLength 1 (some .int) : Cond) ∈ gT := gt_2 (List.mem_of_getElem? (i := 59) (rfl)) rfl
theorem wd_300 : (.methodLink RX3 66 yX3_kindBy : Cond) ∈ gT := gt_2 (List.mem_of_getElem? (i := 60) (by decide +kernel)) rfl
theorem wd_301 : (.static yX3_kindBy : Cond) ∈ gT := gt_2 (List.mem_of_getElem? (i := 61) (by decide +kernel)) rfl
theorem wd_302 : (.code yX3_kindBy cX3_kindBy 1 (some .int) : Cond) ∈ gT := gt_2 (List.mem_of_getElem? (i := 62) (rfl)) rfl
theorem wd_303 : (.methodLink RX11 95 yX3_lay : Cond) ∈ gT := gt_2 (List.mem_of_getElem? (i := 63) (by decide +kernel)) rfl
theorem wd_304 : (.instanceMethod yX3_lay : Cond) ∈ gT := gt_2 (List.mem_of_getElem? (i := 64) (by decide +kernel)) rfl
theorem wd_305 : (.selects RX3 yX3_lay yX3_lay : Cond) ∈ gT := gt_2 (List.mem_of_getElem? (i := 65) (by decide +kernel)) rfl
theorem wd_306 : (.code yX3_lay cX3_lay 7 none : Cond) ∈ gT := gt_2 (List.mem_of_getElem? (i := 66) (rfl)) rfl
theorem wd_307 : (.methodLink RX11 99 yX5_forgetAll : Cond) ∈ gT := gt_2 (List.mem_of_getElem? (i := 67) (by decide +kernel)) rfl
theorem wd_308 : (.instanceMethod yX5_forgetAll : Cond) ∈ gT := gt_2 (List.mem_of_getElem? (i := 68) (by decide +kernel)) rfl
theorem wd_309 : (.selects RX5 yX5_forgetAll yX5_forgetAll : Cond) ∈ gT := gt_2 (List.mem_of_getElem? (i := 69) (by decide +kernel)) rfl
theorem wd_310 : (.code yX5_forgetAll cX5_forgetAll 1 none : Cond) ∈ gT := gt_2 (List.mem_of_getElem? (i := 70) (rfl)) rfl
theorem wd_311 : (.methodLink RX11 102 yX3_stones : Cond) ∈ gT := gt_2 (List.mem_of_getElem? (i := 71) (by decide +kernel)) rfl
theorem wd_312 : (.instanceMethod yX3_stones : Cond) ∈ gT := gt_2 (List.mem_of_getElem? (i := 72) (by decide +kernel)) rfl
theorem wd_313 : (.selects RX3 yX3_stones yX3_stones : Cond) ∈ gT := gt_2 (List.mem_of_getElem? (i := 73) (by decide +kernel)) rfl
theorem wd_314 : (.code yX3_stones cX3_stones 1 (some .int) : Cond) ∈ gT := gt_2 (List.mem_of_getElem? (i := 74) (rfl)) rfl
theorem wd_315 : (.methodLink R_law 18 yX11_ofStone : Cond) ∈ gT := gt_2 (List.mem_of_getElem? (i := 75) (by decide +kernel)) rfl
theorem wd_316 : (.instanceMethod yX11_ofStone : Cond) ∈ gT := gt_2 (List.mem_of_getElem? (i := 76) (by decide +kernel)) rfl
theorem wd_317 : (.selects RX11 yX11_ofStone yX11_ofStone : Cond) ∈ gT := gt_2 (List.mem_of_getElem? (i := 77) (by decide +kernel)) rfl
theorem wd_318 : (.code yX11_ofStone cX11_ofStone 3 (some .int) : Cond) ∈ gT := gt_2 (List.mem_of_getElem? (i := 78) (rfl)) rfl
theorem wd_319 : (.methodLink RX11 106 yX3_has : Cond) ∈ gT := gt_2 (List.mem_of_getElem? (i := 79) (by decide +kernel)) rfl
theorem wd_320 : (.instanceMethod yX3_has : Cond) ∈ gT := gt_2 (List.mem_of_getElem? (i := 80) (by decide +kernel)) rfl
theorem wd_321 : (.selects RX3 yX3_has yX3_has : Cond) ∈ gT := gt_2 (List.mem_of_getElem? (i := 81) (by decide +kernel)) rfl
theorem wd_322 : (.code yX3_has cX3_has 2 (some .boolean) : Cond) ∈ gT := gt_2 (List.mem_of_getElem? (i := 82) (rfl)) rfl
theorem wd_323 : (.methodLink R_law 23 yX11_month : Cond) ∈ gT := gt_2 (List.mem_of_getElem? (i := 83) (by decide +kernel)) rfl
theorem wd_324 : (.instanceMethod yX11_month : Cond) ∈ gT := gt_2 (List.mem_of_getElem? (i := 84) (by decide +kernel)) rfl
theorem wd_325 : (.selects RX11 yX11_month yX11_month : Cond) ∈ gT := gt_2 (List.mem_of_getElem? (i := 85) (by decide +kernel)) rfl
theorem wd_326 : (.code yX11_month cX11_month 5 (some .int) : Cond) ∈ gT := gt_2 (List.mem_of_getElem? (i := 86) (rfl)) rfl
theorem wd_327 : (.methodLink RX11 119 yX11_isMonth : Cond) ∈ gT := gt_2 (List.mem_of_getElem? (i := 87) (by decide +kernel)) rfl
theorem wd_328 : (.static yX11_isMonth : Cond) ∈ gT := gt_2 (List.mem_of_getElem? (i := 88) (by decide +kernel)) rfl
theorem wd_329 : (.code yX11_isMonth cX11_isMonth 1 (some .boolean) : Cond) ∈ gT := gt_2 (List.mem_of_getElem? (i := 89) (rfl)) rfl
theorem wd_330 : (.methodLink RX11 126 yX3_isBare : Cond) ∈ gT := gt_2 (List.mem_of_getElem? (i := 90) (by decide +kernel)) rfl
theorem wd_331 : (.instanceMethod yX3_isBare : Cond) ∈ gT := gt_2 (List.mem_of_getElem? (i := 91) (by decide +kernel)) rfl
theorem wd_332 : (.selects RX3 yX3_isBare yX3_isBare : Cond) ∈ gT := gt_2 (List.mem_of_getElem? (i := 92) (by decide +kernel)) rfl
theorem wd_333 : (.code yX3_isBare cX3_isBare 1 (some .boolean) : Cond) ∈ gT := gt_2 (List.mem_of_getElem? (i := 93) (rfl)) rfl
theorem wd_334 : (.methodLink R_law 28 yX11_lift : Cond) ∈ gT := gt_2 (List.mem_of_getElem? (i := 94) (by decide +kernel)) rfl
theorem wd_335 : (.instanceMethod yX11_lift : Cond) ∈ gT := gt_2 (List.mem_of_getElem? (i := 95) (by decide +kernel)) rfl
theorem wd_336 : (.selects RX11 yX11_lift yX11_lift : Cond) ∈ gT := gt_2 (List.mem_of_getElem? (i := 96) (by decide +kernel)) rfl
theorem wd_337 : (.code yX11_lift cX11_lift 4 (some .int) : Cond) ∈ gT := gt_2 (List.mem_of_getElem? (i := 97) (rfl)) rfl
theorem wd_338 : (.methodLink R_law 32 yX11_height : Cond) ∈ gT := gt_2 (List.mem_of_getElem? (i := 98) (by decide +kernel)) rfl
theorem wd_339 : (.instanceMethod yX11_height : Cond) ∈ gT := gt_2 (List.mem_of_getElem? (i := 99) (by decide +kernel)) rfl
theorem wd_340 : (.selects RX11 yX11_height yX11_height : Cond) ∈ gT := gt_2 (List.mem_of_getElem? (i := 100) (by decide +kernel)) rfl
theorem wd_341 : (.code yX11_height cX11_height 3 (some .int) : Cond) ∈ gT := gt_2 (List.mem_of_getElem? (i := 101) (rfl)) rfl
theorem wd_342 : (.methodLink RX11 136 yX3_heightOf : Cond) ∈ gT := gt_2 (List.mem_of_getElem? (i := 102) (by decide +kernel)) rfl
theorem wd_343 : (.instanceMethod yX3_heightOf : Cond) ∈ gT := gt_2 (List.mem_of_getElem? (i := 103) (by decide +kernel)) rfl
theorem wd_344 : (.selects RX3 yX3_heightOf yX3_heightOf : Cond) ∈ gT := gt_2 (List.mem_of_getElem? (i := 104) (by decide +kernel)) rfl
theorem wd_345 : (.code yX3_heightOf cX3_heightOf 3 (some .int) : Cond) ∈ gT := gt_2 (List.mem_of_getElem? (i := 105) (rfl)) rfl
theorem wd_346 : (.methodLink RX3 85 yX3_heightAs : Cond) ∈ gT := gt_2 (List.mem_of_getElem? (i := 106) (by decide +kernel)) rfl
theorem wd_347 : (.instanceMethod yX3_heightAs : Cond) ∈ gT := gt_2 (List.mem_of_getElem? (i := 107) (by decide +kernel)) rfl
theorem wd_348 : (.selects RX3 yX3_heightAs yX3_heightAs : Cond) ∈ gT := gt_2 (List.mem_of_getElem? (i := 108) (by decide +kernel)) rfl
theorem wd_349 : (.code yX3_heightAs cX3_heightAs 4 (some .int) : Cond) ∈ gT := gt_2 (List.mem_of_getElem? (i := 109) (rfl)) rfl
theorem wd_350 : (.methodLink RX3 89 yX7_swell : Cond) ∈ gT := gt_2 (List.mem_of_getElem? (i := 110) (by decide +kernel)) rfl
theorem wd_351 : (.instanceMethod yX7_swell : Cond) ∈ gT := gt_2 (List.mem_of_getElem? (i := 111) (by decide +kernel)) rfl
theorem wd_352 : (.selects RX7 yX7_swell yX7_swell : Cond) ∈ gT := gt_2 (List.mem_of_getElem? (i := 112) (by decide +kernel)) rfl
theorem wd_353 : (.sameMethod "BreathSquare$Stone" "BreathSquare$Stone" "swell" "(II)I" : Cond) ∈ gT := gt_2 (List.mem_of_getElem? (i := 113) (by decide +kernel)) rfl
theorem wd_354 : (.selects RX0 yX7_swell yX0_swell : Cond) ∈ gT := gt_2 (List.mem_of_getElem? (i := 114) (by decide +kernel)) rfl
theorem wd_355 : (.instanceMethod yX0_swell : Cond) ∈ gT := gt_2 (List.mem_of_getElem? (i := 115) (by decide +kernel)) rfl
theorem wd_356 : (.code yX0_swell cX0_swell 3 (some .int) : Cond) ∈ gT := gt_2 (List.mem_of_getElem? (i := 116) (rfl)) rfl
theorem wd_357 : (.selects RX1 yX7_swell yX1_swell : Cond) ∈ gT := gt_2 (List.mem_of_getElem? (i := 117) (by decide +kernel)) rfl
theorem wd_358 : (.instanceMethod yX1_swell : Cond) ∈ gT := gt_2 (List.mem_of_getElem? (i := 118) (by decide +kernel)) rfl
theorem wd_359 : (.code yX1_swell cX1_swell 3 (some .int) : Cond) ∈ gT := gt_2 (List.mem_of_getElem? (i := 119) (rfl)) rfl
theorem wd_360 : (.methodLink RX1 7 yX0_swell : Cond) ∈ gT := gt_2 (List.mem_of_getElem? (i := 120) (by decide +kernel)) rfl
theorem wd_361 : (.code yX7_swell cX7_swell 3 (some .int) : Cond) ∈ gT := gt_2 (List.mem_of_getElem? (i := 121) (rfl)) rfl
theorem wd_362 : (.methodLink R_law 36 yX11_rises : Cond) ∈ gT := gt_2 (List.mem_of_getElem? (i := 122) (by decide +kernel)) rfl
theorem wd_363 : (.instanceMethod yX11_rises : Cond) ∈ gT := gt_2 (List.mem_of_getElem? (i := 123) (by decide +kernel)) rfl
theorem wd_364 : (.selects RX11 yX11_rises yX11_rises : Cond) ∈ gT := gt_2 (List.mem_of_getElem? (i := 124) (by decide +kernel)) rfl
theorem wd_365 : (.code yX11_rises cX11_rises 3 (some .int) : Cond) ∈ gT := gt_2 (List.mem_of_getElem? (i := 125) (rfl)) rfl
theorem wd_366 : (.methodLink RX11 140 yX3_highestMonth : Cond) ∈ gT := gt_2 (List.mem_of_getElem? (i := 126) (by decide +kernel)) rfl
theorem wd_367 : (.instanceMethod yX3_highestMonth : Cond) ∈ gT := gt_2 (List.mem_of_getElem? (i := 127) (by decide +kernel)) rfl
theorem wd_368 : (.selects RX3 yX3_highestMonth yX3_highestMonth : Cond) ∈ gT := gt_2 (List.mem_of_getElem? (i := 128) (by decide +kernel)) rfl
theorem wd_369 : (.code yX3_highestMonth cX3_highestMonth 4 (some .int) : Cond) ∈ gT := gt_2 (List.mem_of_getElem? (i := 129) (rfl)) rfl
theorem wd_370 : (.methodLink RX3 97 yX3_heightOf : Cond) ∈ gT := gt_2 (List.mem_of_getElem? (i := 130) (by decide +kernel)) rfl
theorem wd_371 : (.methodLink RX11 143 yX3_lowestMonth : Cond) ∈ gT := gt_2 (List.mem_of_getElem? (i := 131) (by decide +kernel)) rfl
theorem wd_372 : (.instanceMethod yX3_lowestMonth : Cond) ∈ gT := gt_2 (List.mem_of_getElem? (i := 132) (by decide +kernel)) rfl
theorem wd_373 : (.selects RX3 yX3_lowestMonth yX3_lowestMonth : Cond) ∈ gT := gt_2 (List.mem_of_getElem? (i := 133) (by decide +kernel)) rfl
theorem wd_374 : (.code yX3_lowestMonth cX3_lowestMonth 4 (some .int) : Cond) ∈ gT := gt_2 (List.mem_of_getElem? (i := 134) (rfl)) rfl
theorem wd_375 : (.methodLink R_law 40 yX11_way : Cond) ∈ gT := gt_2 (List.mem_of_getElem? (i := 135) (by decide +kernel)) rfl
theorem wd_376 : (.instanceMethod yX11_way : Cond) ∈ gT := gt_2 (List.mem_of_getElem? (i := 136) (by decide +kernel)) rfl
theorem wd_377 : (.selects RX11 yX11_way yX11_way : Cond) ∈ gT := gt_2 (List.mem_of_getElem? (i := 137) (by decide +kernel)) rfl
theorem wd_378 : (.code yX11_way cX11_way 6 (some .int) : Cond) ∈ gT := gt_2 (List.mem_of_getElem? (i := 138) (rfl)) rfl
theorem wd_379 : (.methodLink RX11 146 yX11_isApart : Cond) ∈ gT := gt_2 (List.mem_of_getElem? (i := 139) (by decide +kernel)) rfl
theorem wd_380 : (.static yX11_isApart : Cond) ∈ gT := gt_2 (List.mem_of_getElem? (i := 140) (by decide +kernel)) rfl
theorem wd_381 : (.code yX11_isApart cX11_isApart 1 (some .boolean) : Cond) ∈ gT := gt_2 (List.mem_of_getElem? (i := 141) (rfl)) rfl
theorem wd_382 : (.methodLink RX11 149 yX10_measure : Cond) ∈ gT := gt_2 (List.mem_of_getElem? (i := 142) (by decide +kernel)) rfl
theorem wd_383 : (.instanceMethod yX10_measure : Cond) ∈ gT := gt_2 (List.mem_of_getElem? (i := 143) (by decide +kernel)) rfl
theorem wd_384 : (.selects RX10 yX10_measure yX10_measure : Cond) ∈ gT := gt_2 (List.mem_of_getElem? (i := 144) (by decide +kernel)) rfl
theorem wd_385 : (.code yX10_measure cX10_measure 5 none : Cond) ∈ gT := gt_2 (List.mem_of_getElem? (i := 145) (rfl)) rfl
theorem wd_386 : (.methodLink RX10 31 yX3_stones : Cond) ∈ gT := gt_2 (List.mem_of_getElem? (i := 146) (by decide +kernel)) rfl
theorem wd_387 : (.methodLink RX10 37 yX3_writeHeights : Cond) ∈ gT := gt_2 (List.mem_of_getElem? (i := 147) (by decide +kernel)) rfl
theorem wd_388 : (.instanceMethod yX3_writeHeights : Cond) ∈ gT := gt_2 (List.mem_of_getElem? (i := 148) (by decide +kernel)) rfl
theorem wd_389 : (.selects RX3 yX3_writeHeights yX3_writeHeights : Cond) ∈ gT := gt_2 (List.mem_of_getElem? (i := 149) (by decide +kernel)) rfl
theorem wd_390 : (.code yX3_writeHeights cX3_writeHeights 4 none : Cond) ∈ gT := gt_2 (List.mem_of_getElem? (i := 150) (rfl)) rfl
theorem wd_391 : (.methodLink RX3 93 yX3_stones : Cond) ∈ gT := gt_2 (List.mem_of_getElem? (i := 151) (by decide +kernel)) rfl
theorem wd_392 : (.methodLink RX10 41 yX3_neighbour : Cond) ∈ gT := gt_2 (List.mem_of_getElem? (i := 152) (by decide +kernel)) rfl
theorem wd_393 : (.instanceMethod yX3_neighbour : Cond) ∈ gT := gt_2 (List.mem_of_getElem? (i := 153) (by decide +kernel)) rfl
theorem wd_394 : (.selects RX3 yX3_neighbour yX3_neighbour : Cond) ∈ gT := gt_2 (List.mem_of_getElem? (i := 154) (by decide +kernel)) rfl
theorem wd_395 : (.code yX3_neighbour cX3_neighbour 3 (some .int) : Cond) ∈ gT := gt_2 (List.mem_of_getElem? (i := 155) (rfl)) rfl
theorem wd_396 : (.methodLink RX10 45 yX10_apartTo : Cond) ∈ gT := gt_2 (List.mem_of_getElem? (i := 156) (by decide +kernel)) rfl
theorem wd_398 : (.instanceMethod yX10_apartTo : Cond) ∈ gT := gt_2 (List.mem_of_getElem? (i := 158) (by decide +kernel)) rfl
theorem wd_399 : (.code yX10_apartTo cX10_apartTo 3 (some .int) : Cond) ∈ gT := gt_2 (List.mem_of_getElem? (i := 159) (rfl)) rfl
theorem wd_400 : (.methodLink RX10 53 Lib.Math.abs.name : Cond) ∈ gT := gt_2 (List.mem_of_getElem? (i := 160) (by decide +kernel)) rfl
theorem wd_401 : (.static Lib.Math.abs.name : Cond) ∈ gT := gt_2 (List.mem_of_getElem? (i := 161) (by decide +kernel)) rfl
theorem wd_402 : (.code Lib.Math.abs.name Lib.Math.abs.code 1 (some .int) : Cond) ∈ gT := gt_2 (List.mem_of_getElem? (i := 162) (rfl)) rfl
theorem wd_403 : (.methodLink RX10 48 Lib.Math.max.name : Cond) ∈ gT := gt_2 (List.mem_of_getElem? (i := 163) (by decide +kernel)) rfl
theorem wd_404 : (.static Lib.Math.max.name : Cond) ∈ gT := gt_2 (List.mem_of_getElem? (i := 164) (by decide +kernel)) rfl
theorem wd_405 : (.code Lib.Math.max.name Lib.Math.max.code 2 (some .int) : Cond) ∈ gT := gt_2 (List.mem_of_getElem? (i := 165) (rfl)) rfl
theorem wd_406 : (.methodLink RX11 153 yX10_countStepsTo : Cond) ∈ gT := gt_2 (List.mem_of_getElem? (i := 166) (by decide +kernel)) rfl
theorem wd_407 : (.instanceMethod yX10_countStepsTo : Cond) ∈ gT := gt_2 (List.mem_of_getElem? (i := 167) (by decide +kernel)) rfl
theorem wd_408 : (.selects RX10 yX10_countStepsTo yX10_countStepsTo : Cond) ∈ gT := gt_2 (List.mem_of_getElem? (i := 168) (by decide +kernel)) rfl
theorem wd_409 : (.code yX10_countStepsTo cX10_countStepsTo 8 none : Cond) ∈ gT := gt_2 (List.mem_of_getElem? (i := 169) (rfl)) rfl
theorem wd_410 : (.methodLink RX10 57 yX10_stepAt : Cond) ∈ gT := gt_2 (List.mem_of_getElem? (i := 170) (by decide +kernel)) rfl
theorem wd_412 : (.instanceMethod yX10_stepAt : Cond) ∈ gT := gt_2 (List.mem_of_getElem? (i := 172) (by decide +kernel)) rfl
theorem wd_413 : (.code yX10_stepAt cX10_stepAt 4 (some .int) : Cond) ∈ gT := gt_2 (List.mem_of_getElem? (i := 173) (rfl)) rfl
theorem wd_414 : (.methodLink RX11 159 yX10_stoneBehind : Cond) ∈ gT := gt_2 (List.mem_of_getElem? (i := 174) (by decide +kernel)) rfl
theorem wd_415 : (.instanceMethod yX10_stoneBehind : Cond) ∈ gT := gt_2 (List.mem_of_getElem? (i := 175) (by decide +kernel)) rfl
theorem wd_416 : (.selects RX10 yX10_stoneBehind yX10_stoneBehind : Cond) ∈ gT := gt_2 (List.mem_of_getElem? (i := 176) (by decide +kernel)) rfl
theorem wd_417 : (.code yX10_stoneBehind cX10_stoneBehind 6 (some .int) : Cond) ∈ gT := gt_2 (List.mem_of_getElem? (i := 177) (rfl)) rfl
theorem wd_418 : (.methodLink RX10 61 yX10_nextOnWay : Cond) ∈ gT := gt_2 (List.mem_of_getElem? (i := 178) (by decide +kernel)) rfl
theorem wd_420 : (.instanceMethod yX10_nextOnWay : Cond) ∈ gT := gt_2 (List.mem_of_getElem? (i := 180) (by decide +kernel)) rfl
theorem wd_421 : (.code yX10_nextOnWay cX10_nextOnWay 5 (some .int) : Cond) ∈ gT := gt_2 (List.mem_of_getElem? (i := 181) (rfl)) rfl
theorem wd_422 : (.methodLink R_law 45 yX11_holds : Cond) ∈ gT := gt_2 (List.mem_of_getElem? (i := 182) (by decide +kernel)) rfl
theorem wd_423 : (.instanceMethod yX11_holds : Cond) ∈ gT := gt_2 (List.mem_of_getElem? (i := 183) (by decide +kernel)) rfl
theorem wd_424 : (.selects RX11 yX11_holds yX11_holds : Cond) ∈ gT := gt_2 (List.mem_of_getElem? (i := 184) (by decide +kernel)) rfl
theorem wd_425 : (.code yX11_holds cX11_holds 6 (some .int) : Cond) ∈ gT := gt_2 (List.mem_of_getElem? (i := 185) (rfl)) rfl
theorem wd_426 : (.methodLink R_law 49 yX11_leastStep : Cond) ∈ gT := gt_2 (List.mem_of_getElem? (i := 186) (by decide +kernel)) rfl
theorem wd_427 : (.instanceMethod yX11_leastStep : Cond) ∈ gT := gt_2 (List.mem_of_getElem? (i := 187) (by decide +kernel)) rfl
theorem wd_428 : (.selects RX11 yX11_leastStep yX11_leastStep : Cond) ∈ gT := gt_2 (List.mem_of_getElem? (i := 188) (by decide +kernel)) rfl
theorem wd_429 : (.code yX11_leastStep cX11_leastStep 4 (some .int) : Cond) ∈ gT := gt_2 (List.mem_of_getElem? (i := 189) (rfl)) rfl
theorem wd_430 : (.methodLink RX11 163 yX10_leastBetween : Cond) ∈ gT := gt_2 (List.mem_of_getElem? (i := 190) (by decide +kernel)) rfl
theorem wd_431 : (.instanceMethod yX10_leastBetween : Cond) ∈ gT := gt_2 (List.mem_of_getElem? (i := 191) (by decide +kernel)) rfl
theorem wd_432 : (.selects RX10 yX10_leastBetween yX10_leastBetween : Cond) ∈ gT := gt_2 (List.mem_of_getElem? (i := 192) (by decide +kernel)) rfl
theorem wd_433 : (.code yX10_leastBetween cX10_leastBetween 7 (some .int) : Cond) ∈ gT := gt_2 (List.mem_of_getElem? (i := 193) (rfl)) rfl
theorem wd_434 : (.constant RX10 64 (1000000 : Int32) : Cond) ∈ gT := gt_2 (List.mem_of_getElem? (i := 194) (by decide +kernel)) rfl
theorem wd_435 : (.methodLink RX10 65 yX10_leastByNeighbours : Cond) ∈ gT := gt_2 (List.mem_of_getElem? (i := 195) (by decide +kernel)) rfl
theorem wd_437 : (.instanceMethod yX10_leastByNeighbours : Cond) ∈ gT := gt_2 (List.mem_of_getElem? (i := 197) (by decide +kernel)) rfl
theorem wd_438 : (.code yX10_leastByNeighbours cX10_leastByNeighbours 5 (some .int) : Cond) ∈ gT := gt_2 (List.mem_of_getElem? (i := 198) (rfl)) rfl
theorem wd_439 : (.methodLink RX10 68 Lib.Math.min.name : Cond) ∈ gT := gt_2 (List.mem_of_getElem? (i := 199) (by decide +kernel)) rfl
theorem wd_440 : (.static Lib.Math.min.name : Cond) ∈ gT := gt_2 (List.mem_of_getElem? (i := 200) (by decide +kernel)) rfl
theorem wd_441 : (.code Lib.Math.min.name Lib.Math.min.code 2 (some .int) : Cond) ∈ gT := gt_2 (List.mem_of_getElem? (i := 201) (rfl)) rfl
theorem wd_442 : (.methodLink R_law 53 yX11_wedges : Cond) ∈ gT := gt_2 (List.mem_of_getElem? (i := 202) (by decide +kernel)) rfl
theorem wd_443 : (.instanceMethod yX11_wedges : Cond) ∈ gT := gt_2 (List.mem_of_getElem? (i := 203) (by decide +kernel)) rfl
theorem wd_444 : (.selects RX11 yX11_wedges yX11_wedges : Cond) ∈ gT := gt_2 (List.mem_of_getElem? (i := 204) (by decide +kernel)) rfl
theorem wd_445 : (.code yX11_wedges cX11_wedges 3 (some .int) : Cond) ∈ gT := gt_2 (List.mem_of_getElem? (i := 205) (rfl)) rfl
theorem wd_446 : (.methodLink RX11 166 yX3_hasStall : Cond) ∈ gT := gt_2 (List.mem_of_getElem? (i := 206) (by decide +kernel)) rfl
theorem wd_447 : (.instanceMethod yX3_hasStall : Cond) ∈ gT := gt_2 (List.mem_of_getElem? (i := 207) (by decide +kernel)) rfl
theorem wd_448 : (.selects RX3 yX3_hasStall yX3_hasStall : Cond) ∈ gT := gt_2 (List.mem_of_getElem? (i := 208) (by decide +kernel)) rfl
theorem wd_449 : (.code yX3_hasStall cX3_hasStall 2 (some .boolean) : Cond) ∈ gT := gt_2 (List.mem_of_getElem? (i := 209) (rfl)) rfl
theorem wd_450 : (.methodLink RX3 76 yX3_has : Cond) ∈ gT := gt_2 (List.mem_of_getElem? (i := 210) (by decide +kernel)) rfl
theorem wd_451 : (.methodLink RX11 169 yX4_measure : Cond) ∈ gT := gt_2 (List.mem_of_getElem? (i := 211) (by decide +kernel)) rfl
theorem wd_452 : (.instanceMethod yX4_measure : Cond) ∈ gT := gt_2 (List.mem_of_getElem? (i := 212) (by decide +kernel)) rfl
theorem wd_453 : (.selects RX4 yX4_measure yX4_measure : Cond) ∈ gT := gt_2 (List.mem_of_getElem? (i := 213) (by decide +kernel)) rfl
theorem wd_454 : (.code yX4_measure cX4_measure 2 none : Cond) ∈ gT := gt_2 (List.mem_of_getElem? (i := 214) (rfl)) rfl
theorem wd_455 : (.methodLink RX4 22 yX3_writeHeights : Cond) ∈ gT := gt_2 (List.mem_of_getElem? (i := 215) (by decide +kernel)) rfl
theorem wd_456 : (.methodLink RX11 172 yX4_wedgesAt : Cond) ∈ gT := gt_2 (List.mem_of_getElem? (i := 216) (by decide +kernel)) rfl
theorem wd_457 : (.instanceMethod yX4_wedgesAt : Cond) ∈ gT := gt_2 (List.mem_of_getElem? (i := 217) (by decide +kernel)) rfl
theorem wd_458 : (.selects RX4 yX4_wedgesAt yX4_wedgesAt : Cond) ∈ gT := gt_2 (List.mem_of_getElem? (i := 218) (by decide +kernel)) rfl
theorem wd_459 : (.code yX4_wedgesAt cX4_wedgesAt 6 (some .int) : Cond) ∈ gT := gt_2 (List.mem_of_getElem? (i := 219) (rfl)) rfl
theorem wd_460 : (.methodLink RX4 32 Lib.Math.max.name : Cond) ∈ gT := gt_2 (List.mem_of_getElem? (i := 220) (by decide +kernel)) rfl
theorem wd_461 : (.methodLink R_law 57 yX11_best : Cond) ∈ gT := gt_2 (List.mem_of_getElem? (i := 221) (by decide +kernel)) rfl
theorem wd_462 : (.instanceMethod yX11_best : Cond) ∈ gT := gt_2 (List.mem_of_getElem? (i := 222) (by decide +kernel)) rfl
theorem wd_463 : (.selects RX11 yX11_best yX11_best : Cond) ∈ gT := gt_2 (List.mem_of_getElem? (i := 223) (by decide +kernel)) rfl
theorem wd_464 : (.code yX11_best cX11_best 5 (some .int) : Cond) ∈ gT := gt_2 (List.mem_of_getElem? (i := 224) (rfl)) rfl
theorem wd_465 : (.methodLink RX11 175 yX11_refusalOf : Cond) ∈ gT := gt_2 (List.mem_of_getElem? (i := 225) (by decide +kernel)) rfl
theorem wd_467 : (.instanceMethod yX11_refusalOf : Cond) ∈ gT := gt_2 (List.mem_of_getElem? (i := 227) (by decide +kernel)) rfl
theorem wd_468 : (.code yX11_refusalOf cX11_refusalOf 3 (some .int) : Cond) ∈ gT := gt_2 (List.mem_of_getElem? (i := 228) (rfl)) rfl
theorem wd_469 : (.methodLink RX11 179 yX4_bestPlace : Cond) ∈ gT := gt_2 (List.mem_of_getElem? (i := 229) (by decide +kernel)) rfl
theorem wd_470 : (.instanceMethod yX4_bestPlace : Cond) ∈ gT := gt_2 (List.mem_of_getElem? (i := 230) (by decide +kernel)) rfl
theorem wd_471 : (.selects RX4 yX4_bestPlace yX4_bestPlace : Cond) ∈ gT := gt_2 (List.mem_of_getElem? (i := 231) (by decide +kernel)) rfl
theorem wd_472 : (.code yX4_bestPlace cX4_bestPlace 3 (some .int) : Cond) ∈ gT := gt_2 (List.mem_of_getElem? (i := 232) (rfl)) rfl
theorem wd_473 : (.methodLink RX4 38 yX3_stones : Cond) ∈ gT := gt_2 (List.mem_of_getElem? (i := 233) (by decide +kernel)) rfl
theorem wd_474 : (.methodLink RX4 42 yX3_hasStall : Cond) ∈ gT := gt_2 (List.mem_of_getElem? (i := 234) (by decide +kernel)) rfl
theorem wd_475 : (.methodLink RX4 46 yX4_wedgesAt : Cond) ∈ gT := gt_2 (List.mem_of_getElem? (i := 235) (by decide +kernel)) rfl
theorem wd_476 : (.methodLink R_law 61 yX11_two : Cond) ∈ gT := gt_2 (List.mem_of_getElem? (i := 236) (by decide +kernel)) rfl
theorem wd_477 : (.instanceMethod yX11_two : Cond) ∈ gT := gt_2 (List.mem_of_getElem? (i := 237) (by decide +kernel)) rfl
theorem wd_478 : (.selects RX11 yX11_two yX11_two : Cond) ∈ gT := gt_2 (List.mem_of_getElem? (i := 238) (by decide +kernel)) rfl
theorem wd_479 : (.code yX11_two cX11_two 4 (some .int) : Cond) ∈ gT := gt_2 (List.mem_of_getElem? (i := 239) (rfl)) rfl
theorem wd_480 : (.methodLink RX11 182 yX4_findPair : Cond) ∈ gT := gt_3 (List.mem_of_getElem? (i := 0) (by decide +kernel)) rfl
theorem wd_481 : (.instanceMethod yX4_findPair : Cond) ∈ gT := gt_3 (List.mem_of_getElem? (i := 1) (by decide +kernel)) rfl
theorem wd_482 : (.selects RX4 yX4_findPair yX4_findPair : Cond) ∈ gT := gt_3 (List.mem_of_getElem? (i := 2) (by decide +kernel)) rfl
theorem wd_483 : (.code yX4_findPair cX4_findPair 3 none : Cond) ∈ gT := gt_3 (List.mem_of_getElem? (i := 3) (rfl)) rfl
theorem wd_484 : (.methodLink RX4 59 yX4_areClear : Cond) ∈ gT := gt_3 (List.mem_of_getElem? (i := 4) (by decide +kernel)) rfl
theorem wd_486 : (.instanceMethod yX4_areClear : Cond) ∈ gT := gt_3 (List.mem_of_getElem? (i := 6) (by decide +kernel)) rfl
theorem wd_487 : (.code yX4_areClear cX4_areClear 3 (some .boolean) : Cond) ∈ gT := gt_3 (List.mem_of_getElem? (i := 7) (rfl)) rfl
theorem wd_488 : (.methodLink RX4 70 Lib.Math.abs.name : Cond) ∈ gT := gt_3 (List.mem_of_getElem? (i := 8) (by decide +kernel)) rfl
theorem wd_489 : (.methodLink RX4 63 yX4_takePair : Cond) ∈ gT := gt_3 (List.mem_of_getElem? (i := 9) (by decide +kernel)) rfl
theorem wd_491 : (.instanceMethod yX4_takePair : Cond) ∈ gT := gt_3 (List.mem_of_getElem? (i := 11) (by decide +kernel)) rfl
theorem wd_492 : (.code yX4_takePair cX4_takePair 4 none : Cond) ∈ gT := gt_3 (List.mem_of_getElem? (i := 12) (rfl)) rfl
theorem wd_493 : (.methodLink R_law 65 yX11_oval : Cond) ∈ gT := gt_3 (List.mem_of_getElem? (i := 13) (by decide +kernel)) rfl
theorem wd_494 : (.instanceMethod yX11_oval : Cond) ∈ gT := gt_3 (List.mem_of_getElem? (i := 14) (by decide +kernel)) rfl
theorem wd_495 : (.selects RX11 yX11_oval yX11_oval : Cond) ∈ gT := gt_3 (List.mem_of_getElem? (i := 15) (by decide +kernel)) rfl
theorem wd_496 : (.code yX11_oval cX11_oval 5 (some .int) : Cond) ∈ gT := gt_3 (List.mem_of_getElem? (i := 16) (rfl)) rfl
theorem wd_497 : (.methodLink RX11 194 yX4_findOval : Cond) ∈ gT := gt_3 (List.mem_of_getElem? (i := 17) (by decide +kernel)) rfl
theorem wd_498 : (.instanceMethod yX4_findOval : Cond) ∈ gT := gt_3 (List.mem_of_getElem? (i := 18) (by decide +kernel)) rfl
theorem wd_499 : (.selects RX4 yX4_findOval yX4_findOval : Cond) ∈ gT := gt_3 (List.mem_of_getElem? (i := 19) (by decide +kernel)) rfl
theorem wd_500 : (.code yX4_findOval cX4_findOval 5 none : Cond) ∈ gT := gt_3 (List.mem_of_getElem? (i := 20) (rfl)) rfl
theorem wd_501 : (.methodLink RX4 76 yX4_sizeOf : Cond) ∈ gT := gt_3 (List.mem_of_getElem? (i := 21) (by decide +kernel)) rfl
theorem wd_503 : (.instanceMethod yX4_sizeOf : Cond) ∈ gT := gt_3 (List.mem_of_getElem? (i := 23) (by decide +kernel)) rfl
theorem wd_504 : (.code yX4_sizeOf cX4_sizeOf 4 (some .int) : Cond) ∈ gT := gt_3 (List.mem_of_getElem? (i := 24) (rfl)) rfl
theorem wd_505 : (.methodLink RX4 79 yX4_spread : Cond) ∈ gT := gt_3 (List.mem_of_getElem? (i := 25) (by decide +kernel)) rfl
theorem wd_507 : (.instanceMethod yX4_spread : Cond) ∈ gT := gt_3 (List.mem_of_getElem? (i := 27) (by decide +kernel)) rfl
theorem wd_508 : (.code yX4_spread cX4_spread 6 (some .int) : Cond) ∈ gT := gt_3 (List.mem_of_getElem? (i := 28) (rfl)) rfl
theorem wd_509 : (.methodLink RX4 82 Lib.Math.min.name : Cond) ∈ gT := gt_3 (List.mem_of_getElem? (i := 29) (by decide +kernel)) rfl
theorem wd_510 : (.methodLink R_law 69 yX11_depth : Cond) ∈ gT := gt_3 (List.mem_of_getElem? (i := 30) (by decide +kernel)) rfl
theorem wd_511 : (.instanceMethod yX11_depth : Cond) ∈ gT := gt_3 (List.mem_of_getElem? (i := 31) (by decide +kernel)) rfl
theorem wd_512 : (.selects RX11 yX11_depth yX11_depth : Cond) ∈ gT := gt_3 (List.mem_of_getElem? (i := 32) (by decide +kernel)) rfl
theorem wd_513 : (.code yX11_depth cX11_depth 3 (some .int) : Cond) ∈ gT := gt_3 (List.mem_of_getElem? (i := 33) (rfl)) rfl
theorem wd_514 : (.methodLink RX11 197 yX9_measure : Cond) ∈ gT := gt_3 (List.mem_of_getElem? (i := 34) (by decide +kernel)) rfl
theorem wd_515 : (.instanceMethod yX9_measure : Cond) ∈ gT := gt_3 (List.mem_of_getElem? (i := 35) (by decide +kernel)) rfl
theorem wd_516 : (.selects RX9 yX9_measure yX9_measure : Cond) ∈ gT := gt_3 (List.mem_of_getElem? (i := 36) (by decide +kernel)) rfl
theorem wd_517 : (.code yX9_measure cX9_measure 2 none : Cond) ∈ gT := gt_3 (List.mem_of_getElem? (i := 37) (rfl)) rfl
theorem wd_518 : (.methodLink RX9 22 yX3_writeHeights : Cond) ∈ gT := gt_3 (List.mem_of_getElem? (i := 38) (by decide +kernel)) rfl
theorem wd_519 : (.methodLink RX11 198 yX9_settle : Cond) ∈ gT := gt_3 (List.mem_of_getElem? (i := 39) (by decide +kernel)) rfl
theorem wd_520 : (.instanceMethod yX9_settle : Cond) ∈ gT := gt_3 (List.mem_of_getElem? (i := 40) (by decide +kernel)) rfl
theorem wd_521 : (.selects RX9 yX9_settle yX9_settle : Cond) ∈ gT := gt_3 (List.mem_of_getElem? (i := 41) (by decide +kernel)) rfl
theorem wd_522 : (.code yX9_settle cX9_settle 5 none : Cond) ∈ gT := gt_3 (List.mem_of_getElem? (i := 42) (rfl)) rfl
theorem wd_523 : (.methodLink RX9 28 yX3_stones : Cond) ∈ gT := gt_3 (List.mem_of_getElem? (i := 43) (by decide +kernel)) rfl
theorem wd_524 : (.methodLink RX9 32 yX3_isAtEdge : Cond) ∈ gT := gt_3 (List.mem_of_getElem? (i := 44) (by decide +kernel)) rfl
theorem wd_525 : (.instanceMethod yX3_isAtEdge : Cond) ∈ gT := gt_3 (List.mem_of_getElem? (i := 45) (by decide +kernel)) rfl
theorem wd_526 : (.selects RX3 yX3_isAtEdge yX3_isAtEdge : Cond) ∈ gT := gt_3 (List.mem_of_getElem? (i := 46) (by decide +kernel)) rfl
theorem wd_527 : (.code yX3_isAtEdge cX3_isAtEdge 2 (some .boolean) : Cond) ∈ gT := gt_3 (List.mem_of_getElem? (i := 47) (rfl)) rfl
theorem wd_528 : (.constant RX9 36 (1000000 : Int32) : Cond) ∈ gT := gt_3 (List.mem_of_getElem? (i := 48) (by decide +kernel)) rfl
theorem wd_529 : (.methodLink RX9 37 yX9_lowestBeside : Cond) ∈ gT := gt_3 (List.mem_of_getElem? (i := 49) (by decide +kernel)) rfl
theorem wd_531 : (.instanceMethod yX9_lowestBeside : Cond) ∈ gT := gt_3 (List.mem_of_getElem? (i := 51) (by decide +kernel)) rfl
theorem wd_532 : (.code yX9_lowestBeside cX9_lowestBeside 5 (some .int) : Cond) ∈ gT := gt_3 (List.mem_of_getElem? (i := 52) (rfl)) rfl
theorem wd_533 : (.methodLink RX9 47 yX3_neighbour : Cond) ∈ gT := gt_3 (List.mem_of_getElem? (i := 53) (by decide +kernel)) rfl
theorem wd_534 : (.methodLink RX9 50 Lib.Math.min.name : Cond) ∈ gT := gt_3 (List.mem_of_getElem? (i := 54) (by decide +kernel)) rfl
theorem wd_535 : (.methodLink RX9 41 Lib.Math.max.name : Cond) ∈ gT := gt_3 (List.mem_of_getElem? (i := 55) (by decide +kernel)) rfl
theorem wd_536 : (.methodLink RX11 201 yX9_depthAt : Cond) ∈ gT := gt_3 (List.mem_of_getElem? (i := 56) (by decide +kernel)) rfl
theorem wd_537 : (.instanceMethod yX9_depthAt : Cond) ∈ gT := gt_3 (List.mem_of_getElem? (i := 57) (by decide +kernel)) rfl
theorem wd_538 : (.selects RX9 yX9_depthAt yX9_depthAt : Cond) ∈ gT := gt_3 (List.mem_of_getElem? (i := 58) (by decide +kernel)) rfl
theorem wd_539 : (.code yX9_depthAt cX9_depthAt 2 (some .int) : Cond) ∈ gT := gt_3 (List.mem_of_getElem? (i := 59) (rfl)) rfl
theorem wd_540 : (.methodLink R_law 73 yX11_pool : Cond) ∈ gT := gt_3 (List.mem_of_getElem? (i := 60) (by decide +kernel)) rfl
theorem wd_541 : (.instanceMethod yX11_pool : Cond) ∈ gT := gt_3 (List.mem_of_getElem? (i := 61) (by decide +kernel)) rfl
theorem wd_542 : (.selects RX11 yX11_pool yX11_pool : Cond) ∈ gT := gt_3 (List.mem_of_getElem? (i := 62) (by decide +kernel)) rfl
theorem wd_543 : (.code yX11_pool cX11_pool 3 (some .int) : Cond) ∈ gT := gt_3 (List.mem_of_getElem? (i := 63) (rfl)) rfl
theorem wd_544 : (.methodLink RX11 204 yX9_allDepths : Cond) ∈ gT := gt_3 (List.mem_of_getElem? (i := 64) (by decide +kernel)) rfl
theorem wd_545 : (.instanceMethod yX9_allDepths : Cond) ∈ gT := gt_3 (List.mem_of_getElem? (i := 65) (by decide +kernel)) rfl
theorem wd_546 : (.selects RX9 yX9_allDepths yX9_allDepths : Cond) ∈ gT := gt_3 (List.mem_of_getElem? (i := 66) (by decide +kernel)) rfl
theorem wd_547 : (.code yX9_allDepths cX9_allDepths 3 (some .int) : Cond) ∈ gT := gt_3 (List.mem_of_getElem? (i := 67) (rfl)) rfl
theorem wd_548 : (.methodLink RX9 53 yX9_settle : Cond) ∈ gT := gt_3 (List.mem_of_getElem? (i := 68) (by decide +kernel)) rfl
theorem wd_549 : (.methodLink RX9 56 yX9_depthAt : Cond) ∈ gT := gt_3 (List.mem_of_getElem? (i := 69) (by decide +kernel)) rfl
theorem wd_550 : (.methodLink R_law 78 yX11_drain : Cond) ∈ gT := gt_3 (List.mem_of_getElem? (i := 70) (by decide +kernel)) rfl
theorem wd_551 : (.instanceMethod yX11_drain : Cond) ∈ gT := gt_3 (List.mem_of_getElem? (i := 71) (by decide +kernel)) rfl
theorem wd_552 : (.selects RX11 yX11_drain yX11_drain : Cond) ∈ gT := gt_3 (List.mem_of_getElem? (i := 72) (by decide +kernel)) rfl
theorem wd_553 : (.code yX11_drain cX11_drain 6 (some .int) : Cond) ∈ gT := gt_3 (List.mem_of_getElem? (i := 73) (rfl)) rfl
theorem wd_554 : (.methodLink RX11 207 yX9_bestLifted : Cond) ∈ gT := gt_3 (List.mem_of_getElem? (i := 74) (by decide +kernel)) rfl
theorem wd_555 : (.instanceMethod yX9_bestLifted : Cond) ∈ gT := gt_3 (List.mem_of_getElem? (i := 75) (by decide +kernel)) rfl
theorem wd_556 : (.selects RX9 yX9_bestLifted yX9_bestLifted : Cond) ∈ gT := gt_3 (List.mem_of_getElem? (i := 76) (by decide +kernel)) rfl
theorem wd_557 : (.code yX9_bestLifted cX9_bestLifted 6 (some .int) : Cond) ∈ gT := gt_3 (List.mem_of_getElem? (i := 77) (rfl)) rfl
theorem wd_558 : (.methodLink RX9 62 yX9_poolIfLifted : Cond) ∈ gT := gt_3 (List.mem_of_getElem? (i := 78) (by decide +kernel)) rfl
theorem wd_559 : (.instanceMethod yX9_poolIfLifted : Cond) ∈ gT := gt_3 (List.mem_of_getElem? (i := 79) (by decide +kernel)) rfl
theorem wd_560 : (.selects RX9 yX9_poolIfLifted yX9_poolIfLifted : Cond) ∈ gT := gt_3 (List.mem_of_getElem? (i := 80) (by decide +kernel)) rfl
theorem wd_561 : (.code yX9_poolIfLifted cX9_poolIfLifted 4 (some .int) : Cond) ∈ gT := gt_3 (List.mem_of_getElem? (i := 81) (rfl)) rfl
theorem wd_562 : (.methodLink RX9 59 yX9_allDepths : Cond) ∈ gT := gt_3 (List.mem_of_getElem? (i := 82) (by decide +kernel)) rfl
theorem wd_563 : (.methodLink RX11 210 yX9_poolIfLifted : Cond) ∈ gT := gt_3 (List.mem_of_getElem? (i := 83) (by decide +kernel)) rfl
theorem wd_564 : (.methodLink R_law 82 yX11_statue : Cond) ∈ gT := gt_3 (List.mem_of_getElem? (i := 84) (by decide +kernel)) rfl
theorem wd_565 : (.instanceMethod yX11_statue : Cond) ∈ gT := gt_3 (List.mem_of_getElem? (i := 85) (by decide +kernel)) rfl
theorem wd_566 : (.selects RX11 yX11_statue yX11_statue : Cond) ∈ gT := gt_3 (List.mem_of_getElem? (i := 86) (by decide +kernel)) rfl
theorem wd_567 : (.code yX11_statue cX11_statue 5 (some .int) : Cond) ∈ gT := gt_3 (List.mem_of_getElem? (i := 87) (rfl)) rfl
theorem wd_568 : (.methodLink RX11 213 yX3_areBeside : Cond) ∈ gT := gt_3 (List.mem_of_getElem? (i := 88) (by decide +kernel)) rfl
theorem wd_569 : (.instanceMethod yX3_areBeside : Cond) ∈ gT := gt_3 (List.mem_of_getElem? (i := 89) (by decide +kernel)) rfl
theorem wd_570 : (.selects RX3 yX3_areBeside yX3_areBeside : Cond) ∈ gT := gt_3 (List.mem_of_getElem? (i := 90) (by decide +kernel)) rfl
theorem wd_571 : (.code yX3_areBeside cX3_areBeside 3 (some .boolean) : Cond) ∈ gT := gt_3 (List.mem_of_getElem? (i := 91) (rfl)) rfl
theorem wd_572 : (.methodLink RX3 80 Lib.Math.abs.name : Cond) ∈ gT := gt_3 (List.mem_of_getElem? (i := 92) (by decide +kernel)) rfl
theorem wd_573 : (.methodLink RX11 216 Lib.Math.abs.name : Cond) ∈ gT := gt_3 (List.mem_of_getElem? (i := 93) (by decide +kernel)) rfl
theorem wd_574 : (.methodLink R_law 86 yX11_nights : Cond) ∈ gT := gt_3 (List.mem_of_getElem? (i := 94) (by decide +kernel)) rfl
theorem wd_575 : (.instanceMethod yX11_nights : Cond) ∈ gT := gt_3 (List.mem_of_getElem? (i := 95) (by decide +kernel)) rfl
theorem wd_576 : (.selects RX11 yX11_nights yX11_nights : Cond) ∈ gT := gt_3 (List.mem_of_getElem? (i := 96) (by decide +kernel)) rfl
theorem wd_577 : (.code yX11_nights cX11_nights 5 (some .int) : Cond) ∈ gT := gt_3 (List.mem_of_getElem? (i := 97) (rfl)) rfl
theorem wd_578 : (.methodLink RX11 221 yX2_nightsTill : Cond) ∈ gT := gt_3 (List.mem_of_getElem? (i := 98) (by decide +kernel)) rfl
theorem wd_579 : (.instanceMethod yX2_nightsTill : Cond) ∈ gT := gt_3 (List.mem_of_getElem? (i := 99) (by decide +kernel)) rfl
theorem wd_580 : (.selects RX2 yX2_nightsTill yX2_nightsTill : Cond) ∈ gT := gt_3 (List.mem_of_getElem? (i := 100) (by decide +kernel)) rfl
theorem wd_581 : (.code yX2_nightsTill cX2_nightsTill 8 (some .int) : Cond) ∈ gT := gt_3 (List.mem_of_getElem? (i := 101) (rfl)) rfl
theorem wd_582 : (.methodLink RX2 19 yX3_stones : Cond) ∈ gT := gt_3 (List.mem_of_getElem? (i := 102) (by decide +kernel)) rfl
theorem wd_583 : (.methodLink RX2 25 Lib.Math.min.name : Cond) ∈ gT := gt_3 (List.mem_of_getElem? (i := 103) (by decide +kernel)) rfl
theorem wd_584 : (.methodLink RX2 31 yX3_heightOf : Cond) ∈ gT := gt_3 (List.mem_of_getElem? (i := 104) (by decide +kernel)) rfl
theorem wd_585 : (.methodLink RX2 34 yX2_putInOrder : Cond) ∈ gT := gt_3 (List.mem_of_getElem? (i := 105) (by decide +kernel)) rfl
theorem wd_587 : (.instanceMethod yX2_putInOrder : Cond) ∈ gT := gt_3 (List.mem_of_getElem? (i := 107) (by decide +kernel)) rfl
theorem wd_588 : (.code yX2_putInOrder cX2_putInOrder 5 none : Cond) ∈ gT := gt_3 (List.mem_of_getElem? (i := 108) (rfl)) rfl
theorem wd_589 : (.methodLink R_law 90 yX11_reading : Cond) ∈ gT := gt_3 (List.mem_of_getElem? (i := 109) (by decide +kernel)) rfl
theorem wd_590 : (.instanceMethod yX11_reading : Cond) ∈ gT := gt_3 (List.mem_of_getElem? (i := 110) (by decide +kernel)) rfl
theorem wd_591 : (.selects RX11 yX11_reading yX11_reading : Cond) ∈ gT := gt_3 (List.mem_of_getElem? (i := 111) (by decide +kernel)) rfl
theorem wd_592 : (.code yX11_reading cX11_reading 4 (some .int) : Cond) ∈ gT := gt_3 (List.mem_of_getElem? (i := 112) (rfl)) rfl
theorem wd_593 : (.methodLink RX11 224 yX5_isFull : Cond) ∈ gT := gt_3 (List.mem_of_getElem? (i := 113) (by decide +kernel)) rfl
theorem wd_594 : (.instanceMethod yX5_isFull : Cond) ∈ gT := gt_3 (List.mem_of_getElem? (i := 114) (by decide +kernel)) rfl
theorem wd_595 : (.selects RX5 yX5_isFull yX5_isFull : Cond) ∈ gT := gt_3 (List.mem_of_getElem? (i := 115) (by decide +kernel)) rfl
theorem wd_596 : (.code yX5_isFull cX5_isFull 1 (some .boolean) : Cond) ∈ gT := gt_3 (List.mem_of_getElem? (i := 116) (rfl)) rfl
theorem wd_597 : (.methodLink RX11 227 yX5_take : Cond) ∈ gT := gt_3 (List.mem_of_getElem? (i := 117) (by decide +kernel)) rfl
theorem wd_598 : (.instanceMethod yX5_take : Cond) ∈ gT := gt_3 (List.mem_of_getElem? (i := 118) (by decide +kernel)) rfl
theorem wd_599 : (.selects RX5 yX5_take yX5_take : Cond) ∈ gT := gt_3 (List.mem_of_getElem? (i := 119) (by decide +kernel)) rfl
theorem wd_600 : (.code yX5_take cX5_take 4 (some .int) : Cond) ∈ gT := gt_3 (List.mem_of_getElem? (i := 120) (rfl)) rfl
theorem wd_601 : (.methodLink R_law 94 yX11_back : Cond) ∈ gT := gt_3 (List.mem_of_getElem? (i := 121) (by decide +kernel)) rfl
theorem wd_602 : (.instanceMethod yX11_back : Cond) ∈ gT := gt_3 (List.mem_of_getElem? (i := 122) (by decide +kernel)) rfl
theorem wd_603 : (.selects RX11 yX11_back yX11_back : Cond) ∈ gT := gt_3 (List.mem_of_getElem? (i := 123) (by decide +kernel)) rfl
theorem wd_604 : (.code yX11_back cX11_back 2 (some .int) : Cond) ∈ gT := gt_3 (List.mem_of_getElem? (i := 124) (rfl)) rfl
theorem wd_605 : (.methodLink RX11 233 yX5_takeBack : Cond) ∈ gT := gt_3 (List.mem_of_getElem? (i := 125) (by decide +kernel)) rfl
theorem wd_606 : (.instanceMethod yX5_takeBack : Cond) ∈ gT := gt_3 (List.mem_of_getElem? (i := 126) (by decide +kernel)) rfl
theorem wd_607 : (.selects RX5 yX5_takeBack yX5_takeBack : Cond) ∈ gT := gt_3 (List.mem_of_getElem? (i := 127) (by decide +kernel)) rfl
theorem wd_608 : (.code yX5_takeBack cX5_takeBack 2 (some .int) : Cond) ∈ gT := gt_3 (List.mem_of_getElem? (i := 128) (rfl)) rfl
theorem wd_609 : (.methodLink R_law 98 yX11_kinds : Cond) ∈ gT := gt_3 (List.mem_of_getElem? (i := 129) (by decide +kernel)) rfl
theorem wd_610 : (.instanceMethod yX11_kinds : Cond) ∈ gT := gt_3 (List.mem_of_getElem? (i := 130) (by decide +kernel)) rfl
theorem wd_611 : (.selects RX11 yX11_kinds yX11_kinds : Cond) ∈ gT := gt_3 (List.mem_of_getElem? (i := 131) (by decide +kernel)) rfl
theorem wd_612 : (.code yX11_kinds cX11_kinds 2 (some .int) : Cond) ∈ gT := gt_3 (List.mem_of_getElem? (i := 132) (rfl)) rfl
theorem wd_613 : (.methodLink RX11 236 yX5_kindsOf : Cond) ∈ gT := gt_3 (List.mem_of_getElem? (i := 133) (by decide +kernel)) rfl
theorem wd_614 : (.instanceMethod yX5_kindsOf : Cond) ∈ gT := gt_3 (List.mem_of_getElem? (i := 134) (by decide +kernel)) rfl
theorem wd_615 : (.selects RX5 yX5_kindsOf yX5_kindsOf : Cond) ∈ gT := gt_3 (List.mem_of_getElem? (i := 135) (by decide +kernel)) rfl
theorem wd_616 : (.code yX5_kindsOf cX5_kindsOf 4 (some .int) : Cond) ∈ gT := gt_3 (List.mem_of_getElem? (i := 136) (rfl)) rfl
theorem wd_617 : (.methodLink RX5 29 yX5_areAllSo : Cond) ∈ gT := gt_3 (List.mem_of_getElem? (i := 137) (by decide +kernel)) rfl
theorem wd_619 : (.instanceMethod yX5_areAllSo : Cond) ∈ gT := gt_3 (List.mem_of_getElem? (i := 139) (by decide +kernel)) rfl
theorem wd_620 : (.code yX5_areAllSo cX5_areAllSo 4 (some .boolean) : Cond) ∈ gT := gt_3 (List.mem_of_getElem? (i := 140) (rfl)) rfl
theorem wd_621 : (.methodLink RX5 33 yX3_heightAs : Cond) ∈ gT := gt_3 (List.mem_of_getElem? (i := 141) (by decide +kernel)) rfl
theorem wd_622 : (.methodLink R_law 102 yX11_sheet : Cond) ∈ gT := gt_3 (List.mem_of_getElem? (i := 142) (by decide +kernel)) rfl
theorem wd_623 : (.instanceMethod yX11_sheet : Cond) ∈ gT := gt_3 (List.mem_of_getElem? (i := 143) (by decide +kernel)) rfl
theorem wd_624 : (.selects RX11 yX11_sheet yX11_sheet : Cond) ∈ gT := gt_3 (List.mem_of_getElem? (i := 144) (by decide +kernel)) rfl
theorem wd_625 : (.code yX11_sheet cX11_sheet 4 (some .int) : Cond) ∈ gT := gt_3 (List.mem_of_getElem? (i := 145) (rfl)) rfl
theorem wd_626 : (.methodLink RX11 239 yX6_renew : Cond) ∈ gT := gt_3 (List.mem_of_getElem? (i := 146) (by decide +kernel)) rfl
theorem wd_627 : (.instanceMethod yX6_renew : Cond) ∈ gT := gt_3 (List.mem_of_getElem? (i := 147) (by decide +kernel)) rfl
theorem wd_628 : (.selects RX6 yX6_renew yX6_renew : Cond) ∈ gT := gt_3 (List.mem_of_getElem? (i := 148) (by decide +kernel)) rfl
theorem wd_629 : (.code yX6_renew cX6_renew 4 none : Cond) ∈ gT := gt_3 (List.mem_of_getElem? (i := 149) (rfl)) rfl
theorem wd_630 : (.methodLink R_law 106 yX11_lose : Cond) ∈ gT := gt_3 (List.mem_of_getElem? (i := 150) (by decide +kernel)) rfl
theorem wd_631 : (.instanceMethod yX11_lose : Cond) ∈ gT := gt_3 (List.mem_of_getElem? (i := 151) (by decide +kernel)) rfl
theorem wd_632 : (.selects RX11 yX11_lose yX11_lose : Cond) ∈ gT := gt_3 (List.mem_of_getElem? (i := 152) (by decide +kernel)) rfl
theorem wd_633 : (.code yX11_lose cX11_lose 2 (some .int) : Cond) ∈ gT := gt_3 (List.mem_of_getElem? (i := 153) (rfl)) rfl
theorem wd_634 : (.methodLink RX11 242 yX6_clear : Cond) ∈ gT := gt_3 (List.mem_of_getElem? (i := 154) (by decide +kernel)) rfl
theorem wd_635 : (.instanceMethod yX6_clear : Cond) ∈ gT := gt_3 (List.mem_of_getElem? (i := 155) (by decide +kernel)) rfl
theorem wd_636 : (.selects RX6 yX6_clear yX6_clear : Cond) ∈ gT := gt_3 (List.mem_of_getElem? (i := 156) (by decide +kernel)) rfl
theorem wd_637 : (.code yX6_clear cX6_clear 2 (some .boolean) : Cond) ∈ gT := gt_3 (List.mem_of_getElem? (i := 157) (rfl)) rfl
theorem wd_638 : (.methodLink R_law 110 yX11_put : Cond) ∈ gT := gt_3 (List.mem_of_getElem? (i := 158) (by decide +kernel)) rfl
theorem wd_639 : (.instanceMethod yX11_put : Cond) ∈ gT := gt_3 (List.mem_of_getElem? (i := 159) (by decide +kernel)) rfl
theorem wd_640 : (.selects RX11 yX11_put yX11_put : Cond) ∈ gT := gt_3 (List.mem_of_getElem? (i := 160) (by decide +kernel)) rfl
theorem wd_641 : (.code yX11_put cX11_put 5 (some .int) : Cond) ∈ gT := gt_3 (List.mem_of_getElem? (i := 161) (rfl)) rfl
theorem wd_642 : (.methodLink RX11 245 yX6_isNothing : Cond) ∈ gT := gt_3 (List.mem_of_getElem? (i := 162) (by decide +kernel)) rfl
theorem wd_643 : (.methodLink RX11 248 yX6_hasCell : Cond) ∈ gT := gt_3 (List.mem_of_getElem? (i := 163) (by decide +kernel)) rfl
theorem wd_644 : (.instanceMethod yX6_hasCell : Cond) ∈ gT := gt_3 (List.mem_of_getElem? (i := 164) (by decide +kernel)) rfl
theorem wd_645 : (.selects RX6 yX6_hasCell yX6_hasCell : Cond) ∈ gT := gt_3 (List.mem_of_getElem? (i := 165) (by decide +kernel)) rfl
theorem wd_646 : (.code yX6_hasCell cX6_hasCell 2 (some .boolean) : Cond) ∈ gT := gt_3 (List.mem_of_getElem? (i := 166) (rfl)) rfl
theorem wd_647 : (.methodLink RX11 251 yX6_write : Cond) ∈ gT := gt_3 (List.mem_of_getElem? (i := 167) (by decide +kernel)) rfl
theorem wd_648 : (.instanceMethod yX6_write : Cond) ∈ gT := gt_3 (List.mem_of_getElem? (i := 168) (by decide +kernel)) rfl
theorem wd_649 : (.selects RX6 yX6_write yX6_write : Cond) ∈ gT := gt_3 (List.mem_of_getElem? (i := 169) (by decide +kernel)) rfl
theorem wd_650 : (.code yX6_write cX6_write 3 none : Cond) ∈ gT := gt_3 (List.mem_of_getElem? (i := 170) (rfl)) rfl
theorem wd_651 : (.methodLink R_law 114 yX11_cell : Cond) ∈ gT := gt_3 (List.mem_of_getElem? (i := 171) (by decide +kernel)) rfl
theorem wd_652 : (.instanceMethod yX11_cell : Cond) ∈ gT := gt_3 (List.mem_of_getElem? (i := 172) (by decide +kernel)) rfl
theorem wd_653 : (.selects RX11 yX11_cell yX11_cell : Cond) ∈ gT := gt_3 (List.mem_of_getElem? (i := 173) (by decide +kernel)) rfl
theorem wd_654 : (.code yX11_cell cX11_cell 6 (some .long) : Cond) ∈ gT := gt_3 (List.mem_of_getElem? (i := 174) (rfl)) rfl
theorem wd_655 : (.constantLong RX11 254 (-9223372036854775808 : Int64) : Cond) ∈ gT := gt_3 (List.mem_of_getElem? (i := 175) (by decide +kernel)) rfl
theorem wd_656 : (.methodLink R_law 119 yX11_copy : Cond) ∈ gT := gt_3 (List.mem_of_getElem? (i := 176) (by decide +kernel)) rfl
theorem wd_657 : (.instanceMethod yX11_copy : Cond) ∈ gT := gt_3 (List.mem_of_getElem? (i := 177) (by decide +kernel)) rfl
theorem wd_658 : (.selects RX11 yX11_copy yX11_copy : Cond) ∈ gT := gt_3 (List.mem_of_getElem? (i := 178) (by decide +kernel)) rfl
theorem wd_659 : (.code yX11_copy cX11_copy 8 (some .int) : Cond) ∈ gT := gt_3 (List.mem_of_getElem? (i := 179) (rfl)) rfl
theorem wd_660 : (.methodLink RX11 262 arraycopyName : Cond) ∈ gT := gt_3 (List.mem_of_getElem? (i := 180) (by decide +kernel)) rfl
theorem wd_661 : (.static arraycopyName : Cond) ∈ gT := gt_3 (List.mem_of_getElem? (i := 181) (by decide +kernel)) rfl
theorem wd_662 : (.native arraycopyName : Cond) ∈ gT := gt_3 (List.mem_of_getElem? (i := 182) (by decide +kernel)) rfl
theorem wd_663 : (.methodLink R_law 123 yX11_tell : Cond) ∈ gT := gt_3 (List.mem_of_getElem? (i := 183) (by decide +kernel)) rfl
theorem wd_664 : (.instanceMethod yX11_tell : Cond) ∈ gT := gt_3 (List.mem_of_getElem? (i := 184) (by decide +kernel)) rfl
theorem wd_665 : (.selects RX11 yX11_tell yX11_tell : Cond) ∈ gT := gt_3 (List.mem_of_getElem? (i := 185) (by decide +kernel)) rfl
theorem wd_666 : (.code yX11_tell cX11_tell 2 (some .int) : Cond) ∈ gT := gt_3 (List.mem_of_getElem? (i := 186) (rfl)) rfl
theorem wd_667 : (.methodLink RX11 268 yX3_bodyOf : Cond) ∈ gT := gt_3 (List.mem_of_getElem? (i := 187) (by decide +kernel)) rfl
theorem wd_668 : (.instanceMethod yX3_bodyOf : Cond) ∈ gT := gt_3 (List.mem_of_getElem? (i := 188) (by decide +kernel)) rfl
theorem wd_669 : (.selects RX3 yX3_bodyOf yX3_bodyOf : Cond) ∈ gT := gt_3 (List.mem_of_getElem? (i := 189) (by decide +kernel)) rfl
theorem wd_670 : (.code yX3_bodyOf cX3_bodyOf 2 (some (.object "BreathSquare$Stone")) : Cond) ∈ gT := gt_3 (List.mem_of_getElem? (i := 190) (rfl)) rfl
theorem wd_671 : (.methodLink RX11 272 yX7_telling : Cond) ∈ gT := gt_3 (List.mem_of_getElem? (i := 191) (by decide +kernel)) rfl
theorem wd_672 : (.instanceMethod yX7_telling : Cond) ∈ gT := gt_3 (List.mem_of_getElem? (i := 192) (by decide +kernel)) rfl
theorem wd_673 : (.selects RX7 yX7_telling yX7_telling : Cond) ∈ gT := gt_3 (List.mem_of_getElem? (i := 193) (by decide +kernel)) rfl
theorem wd_674 : (.sameMethod "BreathSquare$Stone" "BreathSquare$Stone" "telling" "(ILBreathSquare$Trace;)I" : Cond) ∈ gT := gt_3 (List.mem_of_getElem? (i := 194) (by decide +kernel)) rfl
theorem wd_675 : (.selects RX0 yX7_telling yX0_telling : Cond) ∈ gT := gt_3 (List.mem_of_getElem? (i := 195) (by decide +kernel)) rfl
theorem wd_676 : (.instanceMethod yX0_telling : Cond) ∈ gT := gt_3 (List.mem_of_getElem? (i := 196) (by decide +kernel)) rfl
theorem wd_677 : (.code yX0_telling cX0_telling 3 (some .int) : Cond) ∈ gT := gt_3 (List.mem_of_getElem? (i := 197) (rfl)) rfl
theorem wd_678 : (.methodLink RX0 7 yX8_leave : Cond) ∈ gT := gt_3 (List.mem_of_getElem? (i := 198) (by decide +kernel)) rfl
theorem wd_679 : (.instanceMethod yX8_leave : Cond) ∈ gT := gt_3 (List.mem_of_getElem? (i := 199) (by decide +kernel)) rfl
theorem wd_680 : (.selects RX8 yX8_leave yX8_leave : Cond) ∈ gT := gt_3 (List.mem_of_getElem? (i := 200) (by decide +kernel)) rfl
theorem wd_681 : (.code yX8_leave cX8_leave 2 none : Cond) ∈ gT := gt_3 (List.mem_of_getElem? (i := 201) (rfl)) rfl
theorem wd_682 : (.methodLink RX0 13 yX7_telling : Cond) ∈ gT := gt_3 (List.mem_of_getElem? (i := 202) (by decide +kernel)) rfl
theorem wd_683 : (.selects RX1 yX7_telling yX1_telling : Cond) ∈ gT := gt_3 (List.mem_of_getElem? (i := 203) (by decide +kernel)) rfl
theorem wd_684 : (.instanceMethod yX1_telling : Cond) ∈ gT := gt_3 (List.mem_of_getElem? (i := 204) (by decide +kernel)) rfl
theorem wd_685 : (.code yX1_telling cX1_telling 4 (some .int) : Cond) ∈ gT := gt_3 (List.mem_of_getElem? (i := 205) (rfl)) rfl
theorem wd_686 : (.methodLink RX1 11 yX8_leave : Cond) ∈ gT := gt_3 (List.mem_of_getElem? (i := 206) (by decide +kernel)) rfl
theorem wd_687 : (.methodLink RX1 17 yX0_telling : Cond) ∈ gT := gt_3 (List.mem_of_getElem? (i := 207) (by decide +kernel)) rfl
theorem wd_688 : (.methodLink RX1 21 ⟨"BreathSquare$Frosty", "stoneTelling", "(ILBreathSquare$Trace;)I"⟩ : Cond) ∈ gT := gt_3 (List.mem_of_getElem? (i := 208) (by decide +kernel)) rfl
theorem wd_689 : (.sameMethod "BreathSquare$Frosty" "BreathSquare$Stone" "stoneTelling" "(ILBreathSquare$Trace;)I" : Cond) ∈ gT := gt_3 (List.mem_of_getElem? (i := 209) (by decide +kernel)) rfl
theorem wn_690 : (.declares yX7_stoneTelling : Cond) ∈ lw_tbl := lt_3 (List.mem_of_getElem? (i := 210) (by decide +kernel))
theorem wd_691 : (.selects RX1 ⟨"BreathSquare$Frosty", "stoneTelling", "(ILBreathSquare$Trace;)I"⟩ yX7_stoneTelling : Cond) ∈ gT := gt_3 (List.mem_of_getElem? (i := 211) (by decide +kernel)) rfl
theorem wd_692 : (.instanceMethod yX7_stoneTelling : Cond) ∈ gT := gt_3 (List.mem_of_getElem? (i := 212) (by decide +kernel)) rfl
theorem wd_693 : (.code yX7_stoneTelling cX7_stoneTelling 3 (some .int) : Cond) ∈ gT := gt_3 (List.mem_of_getElem? (i := 213) (rfl)) rfl
theorem wd_694 : (.methodLink RX7 13 yX8_leave : Cond) ∈ gT := gt_3 (List.mem_of_getElem? (i := 214) (by decide +kernel)) rfl
theorem wd_695 : (.code yX7_telling cX7_telling 3 (some .int) : Cond) ∈ gT := gt_3 (List.mem_of_getElem? (i := 215) (rfl)) rfl
theorem wd_696 : (.methodLink RX7 7 yX7_stoneTelling : Cond) ∈ gT := gt_3 (List.mem_of_getElem? (i := 216) (by decide +kernel)) rfl
theorem wd_697 : (.methodLink R_law 127 yX11_tread : Cond) ∈ gT := gt_3 (List.mem_of_getElem? (i := 217) (by decide +kernel)) rfl
theorem wd_698 : (.instanceMethod yX11_tread : Cond) ∈ gT := gt_3 (List.mem_of_getElem? (i := 218) (by decide +kernel)) rfl
theorem wd_699 : (.selects RX11 yX11_tread yX11_tread : Cond) ∈ gT := gt_3 (List.mem_of_getElem? (i := 219) (by decide +kernel)) rfl
theorem wd_700 : (.code yX11_tread cX11_tread 2 (some .int) : Cond) ∈ gT := gt_3 (List.mem_of_getElem? (i := 220) (rfl)) rfl
theorem wd_701 : (.methodLink RX11 278 yX7_trodden : Cond) ∈ gT := gt_3 (List.mem_of_getElem? (i := 221) (by decide +kernel)) rfl
theorem wd_702 : (.instanceMethod yX7_trodden : Cond) ∈ gT := gt_3 (List.mem_of_getElem? (i := 222) (by decide +kernel)) rfl
theorem wd_703 : (.selects RX7 yX7_trodden yX7_trodden : Cond) ∈ gT := gt_3 (List.mem_of_getElem? (i := 223) (by decide +kernel)) rfl
theorem wd_704 : (.sameMethod "BreathSquare$Stone" "BreathSquare$Stone" "trodden" "(ILBreathSquare$Trace;)I" : Cond) ∈ gT := gt_3 (List.mem_of_getElem? (i := 224) (by decide +kernel)) rfl
theorem wd_705 : (.selects RX0 yX7_trodden yX7_trodden : Cond) ∈ gT := gt_3 (List.mem_of_getElem? (i := 225) (by decide +kernel)) rfl
theorem wd_706 : (.selects RX1 yX7_trodden yX1_trodden : Cond) ∈ gT := gt_3 (List.mem_of_getElem? (i := 226) (by decide +kernel)) rfl
theorem wd_707 : (.instanceMethod yX1_trodden : Cond) ∈ gT := gt_3 (List.mem_of_getElem? (i := 227) (by decide +kernel)) rfl
theorem wd_708 : (.code yX1_trodden cX1_trodden 3 (some .int) : Cond) ∈ gT := gt_3 (List.mem_of_getElem? (i := 228) (rfl)) rfl
theorem wd_709 : (.code yX7_trodden cX7_trodden 3 (some .int) : Cond) ∈ gT := gt_3 (List.mem_of_getElem? (i := 229) (rfl)) rfl
theorem wd_710 : (.methodLink R_law 131 yX11_as : Cond) ∈ gT := gt_3 (List.mem_of_getElem? (i := 230) (by decide +kernel)) rfl
theorem wd_711 : (.instanceMethod yX11_as : Cond) ∈ gT := gt_3 (List.mem_of_getElem? (i := 231) (by decide +kernel)) rfl
theorem wd_712 : (.selects RX11 yX11_as yX11_as : Cond) ∈ gT := gt_3 (List.mem_of_getElem? (i := 232) (by decide +kernel)) rfl
theorem wd_713 : (.code yX11_as cX11_as 3 (some .int) : Cond) ∈ gT := gt_3 (List.mem_of_getElem? (i := 233) (rfl)) rfl
theorem wd_714 : (.methodLink R_law 135 yX11_trace : Cond) ∈ gT := gt_3 (List.mem_of_getElem? (i := 234) (by decide +kernel)) rfl
theorem wd_715 : (.instanceMethod yX11_trace : Cond) ∈ gT := gt_3 (List.mem_of_getElem? (i := 235) (by decide +kernel)) rfl
theorem wd_716 : (.selects RX11 yX11_trace yX11_trace : Cond) ∈ gT := gt_3 (List.mem_of_getElem? (i := 236) (by decide +kernel)) rfl
theorem wd_717 : (.code yX11_trace cX11_trace 1 (some .int) : Cond) ∈ gT := gt_3 (List.mem_of_getElem? (i := 237) (rfl)) rfl
theorem wd_718 : (.methodLink R_law 140 yX11_fault : Cond) ∈ gT := gt_3 (List.mem_of_getElem? (i := 238) (by decide +kernel)) rfl
theorem wd_719 : (.instanceMethod yX11_fault : Cond) ∈ gT := gt_3 (List.mem_of_getElem? (i := 239) (by decide +kernel)) rfl
theorem wd_720 : (.selects RX11 yX11_fault yX11_fault : Cond) ∈ gT := gt_4 (List.mem_of_getElem? (i := 0) (by decide +kernel)) rfl
theorem wd_721 : (.code yX11_fault cX11_fault 1 (some .int) : Cond) ∈ gT := gt_4 (List.mem_of_getElem? (i := 1) (rfl)) rfl
theorem wd_722 : (.methodLink R_law 144 yX11_many : Cond) ∈ gT := gt_4 (List.mem_of_getElem? (i := 2) (by decide +kernel)) rfl
theorem wd_723 : (.instanceMethod yX11_many : Cond) ∈ gT := gt_4 (List.mem_of_getElem? (i := 3) (by decide +kernel)) rfl
theorem wd_724 : (.selects RX11 yX11_many yX11_many : Cond) ∈ gT := gt_4 (List.mem_of_getElem? (i := 4) (by decide +kernel)) rfl
theorem wd_725 : (.code yX11_many cX11_many 2 (some .int) : Cond) ∈ gT := gt_4 (List.mem_of_getElem? (i := 5) (rfl)) rfl
theorem wd_726 : (.classLink R_law 10 RX12 : Cond) ∈ gT := gt_4 (List.mem_of_getElem? (i := 6) (by decide +kernel)) rfl
theorem wd_727 : (.instantiable RX12 25 : Cond) ∈ gT := gt_4 (List.mem_of_getElem? (i := 7) (by decide +kernel)) rfl
theorem wd_728 : (.methodLink R_law 12 yX12_init : Cond) ∈ gT := gt_4 (List.mem_of_getElem? (i := 8) (by decide +kernel)) rfl
theorem wd_729 : (.instanceMethod yX12_init : Cond) ∈ gT := gt_4 (List.mem_of_getElem? (i := 9) (by decide +kernel)) rfl
theorem wd_730 : (.code yX12_init cX12_init 1 none : Cond) ∈ gT := gt_4 (List.mem_of_getElem? (i := 10) (rfl)) rfl
theorem wd_731 : (.methodLink RX12 1 Lib.objectInit : Cond) ∈ gT := gt_4 (List.mem_of_getElem? (i := 11) (by decide +kernel)) rfl
theorem wd_732 : (.fieldLink RX12 62 "BreathSquareModel" "fault" "I" : Cond) ∈ gT := gt_4 (List.mem_of_getElem? (i := 12) (by decide +kernel)) rfl
theorem wd_733 : (.fieldLink RX12 186 "BreathSquareModel" "trace" "I" : Cond) ∈ gT := gt_4 (List.mem_of_getElem? (i := 13) (by decide +kernel)) rfl
theorem wd_734 : (.fieldLink RX12 9 "BreathSquareModel" "sorts" "[I" : Cond) ∈ gT := gt_4 (List.mem_of_getElem? (i := 14) (by decide +kernel)) rfl
theorem wd_735 : (.fieldLink RX12 13 "BreathSquareModel" "sheetLong" "[I" : Cond) ∈ gT := gt_4 (List.mem_of_getElem? (i := 15) (by decide +kernel)) rfl
theorem wd_736 : (.fieldLink RX12 16 "BreathSquareModel" "cells" "[I" : Cond) ∈ gT := gt_4 (List.mem_of_getElem? (i := 16) (by decide +kernel)) rfl
theorem wd_737 : (.fieldLink RX12 72 "BreathSquareModel" "high" "I" : Cond) ∈ gT := gt_4 (List.mem_of_getElem? (i := 17) (by decide +kernel)) rfl
theorem wd_738 : (.fieldLink RX12 75 "BreathSquareModel" "wide" "I" : Cond) ∈ gT := gt_4 (List.mem_of_getElem? (i := 18) (by decide +kernel)) rfl
theorem wd_739 : (.fieldLink RX12 19 "BreathSquareModel" "kind" "[I" : Cond) ∈ gT := gt_4 (List.mem_of_getElem? (i := 19) (by decide +kernel)) rfl
theorem wd_740 : (.fieldLink RX12 22 "BreathSquareModel" "ground" "[I" : Cond) ∈ gT := gt_4 (List.mem_of_getElem? (i := 20) (by decide +kernel)) rfl
theorem wd_741 : (.fieldLink RX12 25 "BreathSquareModel" "lifted" "[I" : Cond) ∈ gT := gt_4 (List.mem_of_getElem? (i := 21) (by decide +kernel)) rfl
theorem wd_742 : (.fieldLink RX12 28 "BreathSquareModel" "wet" "[I" : Cond) ∈ gT := gt_4 (List.mem_of_getElem? (i := 22) (by decide +kernel)) rfl
theorem wd_743 : (.fieldLink RX12 31 "BreathSquareModel" "frost" "[I" : Cond) ∈ gT := gt_4 (List.mem_of_getElem? (i := 23) (by decide +kernel)) rfl
theorem wd_744 : (.fieldLink RX12 82 "BreathSquareModel" "at" "I" : Cond) ∈ gT := gt_4 (List.mem_of_getElem? (i := 24) (by decide +kernel)) rfl
theorem wd_745 : (.fieldLink RX12 103 "BreathSquareModel" "readHigh" "I" : Cond) ∈ gT := gt_4 (List.mem_of_getElem? (i := 25) (by decide +kernel)) rfl
theorem wd_746 : (.fieldLink RX12 106 "BreathSquareModel" "readWide" "I" : Cond) ∈ gT := gt_4 (List.mem_of_getElem? (i := 26) (by decide +kernel)) rfl
theorem wd_747 : (.fieldLink RX12 34 "BreathSquareModel" "readKind" "[I" : Cond) ∈ gT := gt_4 (List.mem_of_getElem? (i := 27) (by decide +kernel)) rfl
theorem wd_748 : (.fieldLink RX12 37 "BreathSquareModel" "readGround" "[I" : Cond) ∈ gT := gt_4 (List.mem_of_getElem? (i := 28) (by decide +kernel)) rfl
theorem wd_749 : (.fieldLink RX12 40 "BreathSquareModel" "far" "[I" : Cond) ∈ gT := gt_4 (List.mem_of_getElem? (i := 29) (by decide +kernel)) rfl
theorem wd_750 : (.fieldLink RX12 43 "BreathSquareModel" "worst" "[I" : Cond) ∈ gT := gt_4 (List.mem_of_getElem? (i := 30) (by decide +kernel)) rfl
theorem wd_751 : (.fieldLink RX12 46 "BreathSquareModel" "now" "[I" : Cond) ∈ gT := gt_4 (List.mem_of_getElem? (i := 31) (by decide +kernel)) rfl
theorem wd_752 : (.fieldLink RX12 49 "BreathSquareModel" "isDone" "[Z" : Cond) ∈ gT := gt_4 (List.mem_of_getElem? (i := 32) (by decide +kernel)) rfl
theorem wd_753 : (.fieldLink RX12 109 "BreathSquareModel" "readings" "I" : Cond) ∈ gT := gt_4 (List.mem_of_getElem? (i := 33) (by decide +kernel)) rfl
theorem wd_754 : (.fieldLink RX12 53 "BreathSquareModel" "readStoneIs" "[I" : Cond) ∈ gT := gt_4 (List.mem_of_getElem? (i := 34) (by decide +kernel)) rfl
theorem wd_755 : (.fieldLink RX12 56 "BreathSquareModel" "readMonth" "[I" : Cond) ∈ gT := gt_4 (List.mem_of_getElem? (i := 35) (by decide +kernel)) rfl
theorem wd_756 : (.fieldLink RX12 59 "BreathSquareModel" "readHeight" "[I" : Cond) ∈ gT := gt_4 (List.mem_of_getElem? (i := 36) (by decide +kernel)) rfl
theorem wd_807 : (.superclass RX12 "java/lang/Object" : Cond) ∈ gT := gt_4 (List.mem_of_getElem? (i := 87) (by decide +kernel)) rfl
theorem wd_808 : (.arrayClass .boolean : Cond) ∈ gT := gt_4 (List.mem_of_getElem? (i := 88) (by decide +kernel)) rfl
theorem wd_809 : (.methodLink R_law 17 yX12_square : Cond) ∈ gT := gt_4 (List.mem_of_getElem? (i := 89) (by decide +kernel)) rfl
theorem wd_810 : (.instanceMethod yX12_square : Cond) ∈ gT := gt_4 (List.mem_of_getElem? (i := 90) (by decide +kernel)) rfl
theorem wd_811 : (.selects RX12 yX12_square yX12_square : Cond) ∈ gT := gt_4 (List.mem_of_getElem? (i := 91) (by decide +kernel)) rfl
theorem wd_812 : (.code yX12_square cX12_square 8 (some .int) : Cond) ∈ gT := gt_4 (List.mem_of_getElem? (i := 92) (rfl)) rfl
theorem wd_813 : (.methodLink RX12 85 yX12_isSheet : Cond) ∈ gT := gt_4 (List.mem_of_getElem? (i := 93) (by decide +kernel)) rfl
theorem wd_814 : (.static yX12_isSheet : Cond) ∈ gT := gt_4 (List.mem_of_getElem? (i := 94) (by decide +kernel)) rfl
theorem wd_815 : (.code yX12_isSheet cX12_isSheet 1 (some .boolean) : Cond) ∈ gT := gt_4 (List.mem_of_getElem? (i := 95) (rfl)) rfl
theorem wd_816 : (.methodLink RX12 68 yX12_within : Cond) ∈ gT := gt_4 (List.mem_of_getElem? (i := 96) (by decide +kernel)) rfl
theorem wd_817 : (.static yX12_within : Cond) ∈ gT := gt_4 (List.mem_of_getElem? (i := 97) (by decide +kernel)) rfl
theorem wd_818 : (.code yX12_within cX12_within 3 (some .boolean) : Cond) ∈ gT := gt_4 (List.mem_of_getElem? (i := 98) (rfl)) rfl
theorem wd_819 : (.methodLink RX12 89 yX12_isSort : Cond) ∈ gT := gt_4 (List.mem_of_getElem? (i := 99) (by decide +kernel)) rfl
theorem wd_820 : (.static yX12_isSort : Cond) ∈ gT := gt_4 (List.mem_of_getElem? (i := 100) (by decide +kernel)) rfl
theorem wd_821 : (.code yX12_isSort cX12_isSort 1 (some .boolean) : Cond) ∈ gT := gt_4 (List.mem_of_getElem? (i := 101) (rfl)) rfl
theorem wd_822 : (.methodLink RX12 92 yX12_against : Cond) ∈ gT := gt_4 (List.mem_of_getElem? (i := 102) (by decide +kernel)) rfl
theorem wd_824 : (.instanceMethod yX12_against : Cond) ∈ gT := gt_4 (List.mem_of_getElem? (i := 104) (by decide +kernel)) rfl
theorem wd_825 : (.code yX12_against cX12_against 5 (some .int) : Cond) ∈ gT := gt_4 (List.mem_of_getElem? (i := 105) (rfl)) rfl
theorem wd_826 : (.methodLink RX12 96 yX12_fails : Cond) ∈ gT := gt_4 (List.mem_of_getElem? (i := 106) (by decide +kernel)) rfl
theorem wd_828 : (.instanceMethod yX12_fails : Cond) ∈ gT := gt_4 (List.mem_of_getElem? (i := 108) (by decide +kernel)) rfl
theorem wd_829 : (.code yX12_fails cX12_fails 2 (some .int) : Cond) ∈ gT := gt_4 (List.mem_of_getElem? (i := 109) (rfl)) rfl
theorem wd_830 : (.methodLink RX12 100 yX12_readSquare : Cond) ∈ gT := gt_4 (List.mem_of_getElem? (i := 110) (by decide +kernel)) rfl
theorem wd_832 : (.instanceMethod yX12_readSquare : Cond) ∈ gT := gt_4 (List.mem_of_getElem? (i := 112) (by decide +kernel)) rfl
theorem wd_833 : (.code yX12_readSquare cX12_readSquare 4 (some .boolean) : Cond) ∈ gT := gt_4 (List.mem_of_getElem? (i := 113) (rfl)) rfl
theorem wd_834 : (.methodLink RX12 112 yX12_digit : Cond) ∈ gT := gt_4 (List.mem_of_getElem? (i := 114) (by decide +kernel)) rfl
theorem wd_836 : (.instanceMethod yX12_digit : Cond) ∈ gT := gt_4 (List.mem_of_getElem? (i := 116) (by decide +kernel)) rfl
theorem wd_837 : (.code yX12_digit cX12_digit 4 (some .int) : Cond) ∈ gT := gt_4 (List.mem_of_getElem? (i := 117) (rfl)) rfl
theorem wd_838 : (.methodLink RX12 116 yX12_readStone : Cond) ∈ gT := gt_4 (List.mem_of_getElem? (i := 118) (by decide +kernel)) rfl
theorem wd_840 : (.instanceMethod yX12_readStone : Cond) ∈ gT := gt_4 (List.mem_of_getElem? (i := 120) (by decide +kernel)) rfl
theorem wd_841 : (.code yX12_readStone cX12_readStone 4 (some .boolean) : Cond) ∈ gT := gt_4 (List.mem_of_getElem? (i := 121) (rfl)) rfl
theorem wd_842 : (.methodLink RX12 78 yX12_all : Cond) ∈ gT := gt_4 (List.mem_of_getElem? (i := 122) (by decide +kernel)) rfl
theorem wd_844 : (.instanceMethod yX12_all : Cond) ∈ gT := gt_4 (List.mem_of_getElem? (i := 124) (by decide +kernel)) rfl
theorem wd_845 : (.code yX12_all cX12_all 1 (some .int) : Cond) ∈ gT := gt_4 (List.mem_of_getElem? (i := 125) (rfl)) rfl
theorem wd_846 : (.methodLink R_law 22 yX12_ofStone : Cond) ∈ gT := gt_4 (List.mem_of_getElem? (i := 126) (by decide +kernel)) rfl
theorem wd_847 : (.instanceMethod yX12_ofStone : Cond) ∈ gT := gt_4 (List.mem_of_getElem? (i := 127) (by decide +kernel)) rfl
theorem wd_848 : (.selects RX12 yX12_ofStone yX12_ofStone : Cond) ∈ gT := gt_4 (List.mem_of_getElem? (i := 128) (by decide +kernel)) rfl
theorem wd_849 : (.code yX12_ofStone cX12_ofStone 3 (some .int) : Cond) ∈ gT := gt_4 (List.mem_of_getElem? (i := 129) (rfl)) rfl
theorem wd_850 : (.methodLink RX12 120 yX12_isStone : Cond) ∈ gT := gt_4 (List.mem_of_getElem? (i := 130) (by decide +kernel)) rfl
theorem wd_852 : (.instanceMethod yX12_isStone : Cond) ∈ gT := gt_4 (List.mem_of_getElem? (i := 132) (by decide +kernel)) rfl
theorem wd_853 : (.code yX12_isStone cX12_isStone 2 (some .boolean) : Cond) ∈ gT := gt_4 (List.mem_of_getElem? (i := 133) (rfl)) rfl
theorem wd_854 : (.methodLink R_law 27 yX12_month : Cond) ∈ gT := gt_4 (List.mem_of_getElem? (i := 134) (by decide +kernel)) rfl
theorem wd_855 : (.instanceMethod yX12_month : Cond) ∈ gT := gt_4 (List.mem_of_getElem? (i := 135) (by decide +kernel)) rfl
theorem wd_856 : (.selects RX12 yX12_month yX12_month : Cond) ∈ gT := gt_4 (List.mem_of_getElem? (i := 136) (by decide +kernel)) rfl
theorem wd_857 : (.code yX12_month cX12_month 5 (some .int) : Cond) ∈ gT := gt_4 (List.mem_of_getElem? (i := 137) (rfl)) rfl
theorem wd_858 : (.methodLink RX12 123 yX12_isMonth : Cond) ∈ gT := gt_4 (List.mem_of_getElem? (i := 138) (by decide +kernel)) rfl
theorem wd_859 : (.static yX12_isMonth : Cond) ∈ gT := gt_4 (List.mem_of_getElem? (i := 139) (by decide +kernel)) rfl
theorem wd_860 : (.code yX12_isMonth cX12_isMonth 1 (some .boolean) : Cond) ∈ gT := gt_4 (List.mem_of_getElem? (i := 140) (rfl)) rfl
theorem wd_861 : (.methodLink R_law 31 yX12_lift : Cond) ∈ gT := gt_4 (List.mem_of_getElem? (i := 141) (by decide +kernel)) rfl
theorem wd_862 : (.instanceMethod yX12_lift : Cond) ∈ gT := gt_4 (List.mem_of_getElem? (i := 142) (by decide +kernel)) rfl
theorem wd_863 : (.selects RX12 yX12_lift yX12_lift : Cond) ∈ gT := gt_4 (List.mem_of_getElem? (i := 143) (by decide +kernel)) rfl
theorem wd_864 : (.code yX12_lift cX12_lift 4 (some .int) : Cond) ∈ gT := gt_4 (List.mem_of_getElem? (i := 144) (rfl)) rfl
theorem wd_865 : (.methodLink R_law 35 yX12_height : Cond) ∈ gT := gt_4 (List.mem_of_getElem? (i := 145) (by decide +kernel)) rfl
theorem wd_866 : (.instanceMethod yX12_height : Cond) ∈ gT := gt_4 (List.mem_of_getElem? (i := 146) (by decide +kernel)) rfl
theorem wd_867 : (.selects RX12 yX12_height yX12_height : Cond) ∈ gT := gt_4 (List.mem_of_getElem? (i := 147) (by decide +kernel)) rfl
theorem wd_868 : (.code yX12_height cX12_height 3 (some .int) : Cond) ∈ gT := gt_4 (List.mem_of_getElem? (i := 148) (rfl)) rfl
theorem wd_869 : (.methodLink RX12 129 yX12_heightOf : Cond) ∈ gT := gt_4 (List.mem_of_getElem? (i := 149) (by decide +kernel)) rfl
theorem wd_871 : (.instanceMethod yX12_heightOf : Cond) ∈ gT := gt_4 (List.mem_of_getElem? (i := 151) (by decide +kernel)) rfl
theorem wd_872 : (.code yX12_heightOf cX12_heightOf 3 (some .int) : Cond) ∈ gT := gt_4 (List.mem_of_getElem? (i := 152) (rfl)) rfl
theorem wd_873 : (.methodLink RX12 126 yX12_heightAs : Cond) ∈ gT := gt_4 (List.mem_of_getElem? (i := 153) (by decide +kernel)) rfl
theorem wd_875 : (.instanceMethod yX12_heightAs : Cond) ∈ gT := gt_4 (List.mem_of_getElem? (i := 155) (by decide +kernel)) rfl
theorem wd_876 : (.code yX12_heightAs cX12_heightAs 5 (some .int) : Cond) ∈ gT := gt_4 (List.mem_of_getElem? (i := 156) (rfl)) rfl
theorem wd_877 : (.methodLink R_law 39 yX12_rises : Cond) ∈ gT := gt_4 (List.mem_of_getElem? (i := 157) (by decide +kernel)) rfl
theorem wd_878 : (.instanceMethod yX12_rises : Cond) ∈ gT := gt_4 (List.mem_of_getElem? (i := 158) (by decide +kernel)) rfl
theorem wd_879 : (.selects RX12 yX12_rises yX12_rises : Cond) ∈ gT := gt_4 (List.mem_of_getElem? (i := 159) (by decide +kernel)) rfl
theorem wd_880 : (.code yX12_rises cX12_rises 6 (some .int) : Cond) ∈ gT := gt_4 (List.mem_of_getElem? (i := 160) (rfl)) rfl
theorem wd_881 : (.methodLink R_law 44 yX12_way : Cond) ∈ gT := gt_4 (List.mem_of_getElem? (i := 161) (by decide +kernel)) rfl
theorem wd_882 : (.instanceMethod yX12_way : Cond) ∈ gT := gt_4 (List.mem_of_getElem? (i := 162) (by decide +kernel)) rfl
theorem wd_883 : (.selects RX12 yX12_way yX12_way : Cond) ∈ gT := gt_4 (List.mem_of_getElem? (i := 163) (by decide +kernel)) rfl
theorem wd_884 : (.code yX12_way cX12_way 9 (some .int) : Cond) ∈ gT := gt_4 (List.mem_of_getElem? (i := 164) (rfl)) rfl
theorem wd_885 : (.methodLink RX12 144 yX12_findFar : Cond) ∈ gT := gt_4 (List.mem_of_getElem? (i := 165) (by decide +kernel)) rfl
theorem wd_887 : (.instanceMethod yX12_findFar : Cond) ∈ gT := gt_4 (List.mem_of_getElem? (i := 167) (by decide +kernel)) rfl
theorem wd_888 : (.code yX12_findFar cX12_findFar 9 none : Cond) ∈ gT := gt_4 (List.mem_of_getElem? (i := 168) (rfl)) rfl
theorem wd_889 : (.constant RX12 136 (999999 : Int32) : Cond) ∈ gT := gt_4 (List.mem_of_getElem? (i := 169) (by decide +kernel)) rfl
theorem wd_890 : (.methodLink RX12 137 yX12_beside : Cond) ∈ gT := gt_4 (List.mem_of_getElem? (i := 170) (by decide +kernel)) rfl
theorem wd_892 : (.instanceMethod yX12_beside : Cond) ∈ gT := gt_4 (List.mem_of_getElem? (i := 172) (by decide +kernel)) rfl
theorem wd_893 : (.code yX12_beside cX12_beside 5 (some .int) : Cond) ∈ gT := gt_4 (List.mem_of_getElem? (i := 173) (rfl)) rfl
theorem wd_894 : (.methodLink RX12 140 yX12_isStep : Cond) ∈ gT := gt_4 (List.mem_of_getElem? (i := 174) (by decide +kernel)) rfl
theorem wd_896 : (.instanceMethod yX12_isStep : Cond) ∈ gT := gt_4 (List.mem_of_getElem? (i := 176) (by decide +kernel)) rfl
theorem wd_897 : (.code yX12_isStep cX12_isStep 7 (some .boolean) : Cond) ∈ gT := gt_4 (List.mem_of_getElem? (i := 177) (rfl)) rfl
theorem wd_898 : (.methodLink RX12 133 yX12_size : Cond) ∈ gT := gt_4 (List.mem_of_getElem? (i := 178) (by decide +kernel)) rfl
theorem wd_899 : (.static yX12_size : Cond) ∈ gT := gt_4 (List.mem_of_getElem? (i := 179) (by decide +kernel)) rfl
theorem wd_900 : (.code yX12_size cX12_size 1 (some .int) : Cond) ∈ gT := gt_4 (List.mem_of_getElem? (i := 180) (rfl)) rfl
theorem wd_901 : (.methodLink R_law 48 yX12_holds : Cond) ∈ gT := gt_4 (List.mem_of_getElem? (i := 181) (by decide +kernel)) rfl
theorem wd_902 : (.instanceMethod yX12_holds : Cond) ∈ gT := gt_4 (List.mem_of_getElem? (i := 182) (by decide +kernel)) rfl
theorem wd_903 : (.selects RX12 yX12_holds yX12_holds : Cond) ∈ gT := gt_4 (List.mem_of_getElem? (i := 183) (by decide +kernel)) rfl
theorem wd_904 : (.code yX12_holds cX12_holds 6 (some .int) : Cond) ∈ gT := gt_4 (List.mem_of_getElem? (i := 184) (rfl)) rfl
theorem wd_905 : (.methodLink R_law 52 yX12_leastStep : Cond) ∈ gT := gt_4 (List.mem_of_getElem? (i := 185) (by decide +kernel)) rfl
theorem wd_906 : (.instanceMethod yX12_leastStep : Cond) ∈ gT := gt_4 (List.mem_of_getElem? (i := 186) (by decide +kernel)) rfl
theorem wd_907 : (.selects RX12 yX12_leastStep yX12_leastStep : Cond) ∈ gT := gt_4 (List.mem_of_getElem? (i := 187) (by decide +kernel)) rfl
theorem wd_908 : (.code yX12_leastStep cX12_leastStep 10 (some .int) : Cond) ∈ gT := gt_4 (List.mem_of_getElem? (i := 188) (rfl)) rfl
theorem wd_909 : (.methodLink R_law 56 yX12_wedges : Cond) ∈ gT := gt_4 (List.mem_of_getElem? (i := 189) (by decide +kernel)) rfl
theorem wd_910 : (.instanceMethod yX12_wedges : Cond) ∈ gT := gt_4 (List.mem_of_getElem? (i := 190) (by decide +kernel)) rfl
theorem wd_911 : (.selects RX12 yX12_wedges yX12_wedges : Cond) ∈ gT := gt_4 (List.mem_of_getElem? (i := 191) (by decide +kernel)) rfl
theorem wd_912 : (.code yX12_wedges cX12_wedges 3 (some .int) : Cond) ∈ gT := gt_4 (List.mem_of_getElem? (i := 192) (rfl)) rfl
theorem wd_913 : (.methodLink RX12 148 yX12_isPlace : Cond) ∈ gT := gt_4 (List.mem_of_getElem? (i := 193) (by decide +kernel)) rfl
theorem wd_915 : (.instanceMethod yX12_isPlace : Cond) ∈ gT := gt_4 (List.mem_of_getElem? (i := 195) (by decide +kernel)) rfl
theorem wd_916 : (.code yX12_isPlace cX12_isPlace 2 (some .boolean) : Cond) ∈ gT := gt_4 (List.mem_of_getElem? (i := 196) (rfl)) rfl
theorem wd_917 : (.methodLink RX12 151 yX12_wedgesOf : Cond) ∈ gT := gt_4 (List.mem_of_getElem? (i := 197) (by decide +kernel)) rfl
theorem wd_919 : (.instanceMethod yX12_wedgesOf : Cond) ∈ gT := gt_4 (List.mem_of_getElem? (i := 199) (by decide +kernel)) rfl
theorem wd_920 : (.code yX12_wedgesOf cX12_wedgesOf 8 (some .int) : Cond) ∈ gT := gt_4 (List.mem_of_getElem? (i := 200) (rfl)) rfl
theorem wd_921 : (.methodLink R_law 60 yX12_best : Cond) ∈ gT := gt_4 (List.mem_of_getElem? (i := 201) (by decide +kernel)) rfl
theorem wd_922 : (.instanceMethod yX12_best : Cond) ∈ gT := gt_4 (List.mem_of_getElem? (i := 202) (by decide +kernel)) rfl
theorem wd_923 : (.selects RX12 yX12_best yX12_best : Cond) ∈ gT := gt_4 (List.mem_of_getElem? (i := 203) (by decide +kernel)) rfl
theorem wd_924 : (.code yX12_best cX12_best 5 (some .int) : Cond) ∈ gT := gt_4 (List.mem_of_getElem? (i := 204) (rfl)) rfl
theorem wd_925 : (.methodLink R_law 64 yX12_two : Cond) ∈ gT := gt_4 (List.mem_of_getElem? (i := 205) (by decide +kernel)) rfl
theorem wd_926 : (.instanceMethod yX12_two : Cond) ∈ gT := gt_4 (List.mem_of_getElem? (i := 206) (by decide +kernel)) rfl
theorem wd_927 : (.selects RX12 yX12_two yX12_two : Cond) ∈ gT := gt_4 (List.mem_of_getElem? (i := 207) (by decide +kernel)) rfl
theorem wd_928 : (.code yX12_two cX12_two 9 (some .int) : Cond) ∈ gT := gt_4 (List.mem_of_getElem? (i := 208) (rfl)) rfl
theorem wd_929 : (.methodLink RX12 154 yX12_areApart : Cond) ∈ gT := gt_4 (List.mem_of_getElem? (i := 209) (by decide +kernel)) rfl
theorem wd_931 : (.instanceMethod yX12_areApart : Cond) ∈ gT := gt_4 (List.mem_of_getElem? (i := 211) (by decide +kernel)) rfl
theorem wd_932 : (.code yX12_areApart cX12_areApart 3 (some .boolean) : Cond) ∈ gT := gt_4 (List.mem_of_getElem? (i := 212) (rfl)) rfl
theorem wd_933 : (.methodLink R_law 68 yX12_oval : Cond) ∈ gT := gt_4 (List.mem_of_getElem? (i := 213) (by decide +kernel)) rfl
theorem wd_934 : (.instanceMethod yX12_oval : Cond) ∈ gT := gt_4 (List.mem_of_getElem? (i := 214) (by decide +kernel)) rfl
theorem wd_935 : (.selects RX12 yX12_oval yX12_oval : Cond) ∈ gT := gt_4 (List.mem_of_getElem? (i := 215) (by decide +kernel)) rfl
theorem wd_936 : (.code yX12_oval cX12_oval 10 (some .int) : Cond) ∈ gT := gt_4 (List.mem_of_getElem? (i := 216) (rfl)) rfl
theorem wd_937 : (.methodLink RX12 157 yX12_apartOf : Cond) ∈ gT := gt_4 (List.mem_of_getElem? (i := 217) (by decide +kernel)) rfl
theorem wd_939 : (.instanceMethod yX12_apartOf : Cond) ∈ gT := gt_4 (List.mem_of_getElem? (i := 219) (by decide +kernel)) rfl
theorem wd_940 : (.code yX12_apartOf cX12_apartOf 9 (some .int) : Cond) ∈ gT := gt_4 (List.mem_of_getElem? (i := 220) (rfl)) rfl
theorem wd_941 : (.methodLink R_law 72 yX12_depth : Cond) ∈ gT := gt_4 (List.mem_of_getElem? (i := 221) (by decide +kernel)) rfl
theorem wd_942 : (.instanceMethod yX12_depth : Cond) ∈ gT := gt_4 (List.mem_of_getElem? (i := 222) (by decide +kernel)) rfl
theorem wd_943 : (.selects RX12 yX12_depth yX12_depth : Cond) ∈ gT := gt_4 (List.mem_of_getElem? (i := 223) (by decide +kernel)) rfl
theorem wd_944 : (.code yX12_depth cX12_depth 3 (some .int) : Cond) ∈ gT := gt_4 (List.mem_of_getElem? (i := 224) (rfl)) rfl
theorem wd_945 : (.methodLink RX12 163 yX12_findWater : Cond) ∈ gT := gt_4 (List.mem_of_getElem? (i := 225) (by decide +kernel)) rfl
theorem wd_947 : (.instanceMethod yX12_findWater : Cond) ∈ gT := gt_4 (List.mem_of_getElem? (i := 227) (by decide +kernel)) rfl
theorem wd_948 : (.code yX12_findWater cX12_findWater 7 none : Cond) ∈ gT := gt_4 (List.mem_of_getElem? (i := 228) (rfl)) rfl
theorem wd_949 : (.methodLink RX12 160 yX12_isEdge : Cond) ∈ gT := gt_4 (List.mem_of_getElem? (i := 229) (by decide +kernel)) rfl
theorem wd_951 : (.instanceMethod yX12_isEdge : Cond) ∈ gT := gt_4 (List.mem_of_getElem? (i := 231) (by decide +kernel)) rfl
theorem wd_952 : (.code yX12_isEdge cX12_isEdge 2 (some .boolean) : Cond) ∈ gT := gt_4 (List.mem_of_getElem? (i := 232) (rfl)) rfl
theorem wd_953 : (.methodLink R_law 77 yX12_pool : Cond) ∈ gT := gt_4 (List.mem_of_getElem? (i := 233) (by decide +kernel)) rfl
theorem wd_954 : (.instanceMethod yX12_pool : Cond) ∈ gT := gt_4 (List.mem_of_getElem? (i := 234) (by decide +kernel)) rfl
theorem wd_955 : (.selects RX12 yX12_pool yX12_pool : Cond) ∈ gT := gt_4 (List.mem_of_getElem? (i := 235) (by decide +kernel)) rfl
theorem wd_956 : (.code yX12_pool cX12_pool 2 (some .int) : Cond) ∈ gT := gt_4 (List.mem_of_getElem? (i := 236) (rfl)) rfl
theorem wd_957 : (.methodLink RX12 167 yX12_poolOf : Cond) ∈ gT := gt_4 (List.mem_of_getElem? (i := 237) (by decide +kernel)) rfl
theorem wd_959 : (.instanceMethod yX12_poolOf : Cond) ∈ gT := gt_4 (List.mem_of_getElem? (i := 239) (by decide +kernel)) rfl
theorem wd_960 : (.code yX12_poolOf cX12_poolOf 4 (some .int) : Cond) ∈ gT := gt_5 (List.mem_of_getElem? (i := 0) (rfl)) rfl
theorem wd_961 : (.methodLink R_law 81 yX12_drain : Cond) ∈ gT := gt_5 (List.mem_of_getElem? (i := 1) (by decide +kernel)) rfl
theorem wd_962 : (.instanceMethod yX12_drain : Cond) ∈ gT := gt_5 (List.mem_of_getElem? (i := 2) (by decide +kernel)) rfl
theorem wd_963 : (.selects RX12 yX12_drain yX12_drain : Cond) ∈ gT := gt_5 (List.mem_of_getElem? (i := 3) (by decide +kernel)) rfl
theorem wd_964 : (.code yX12_drain cX12_drain 8 (some .int) : Cond) ∈ gT := gt_5 (List.mem_of_getElem? (i := 4) (rfl)) rfl
theorem wd_965 : (.methodLink R_law 85 yX12_statue : Cond) ∈ gT := gt_5 (List.mem_of_getElem? (i := 5) (by decide +kernel)) rfl
theorem wd_966 : (.instanceMethod yX12_statue : Cond) ∈ gT := gt_5 (List.mem_of_getElem? (i := 6) (by decide +kernel)) rfl
theorem wd_967 : (.selects RX12 yX12_statue yX12_statue : Cond) ∈ gT := gt_5 (List.mem_of_getElem? (i := 7) (by decide +kernel)) rfl
theorem wd_968 : (.code yX12_statue cX12_statue 5 (some .int) : Cond) ∈ gT := gt_5 (List.mem_of_getElem? (i := 8) (rfl)) rfl
theorem wd_969 : (.methodLink RX12 170 yX12_areBeside : Cond) ∈ gT := gt_5 (List.mem_of_getElem? (i := 9) (by decide +kernel)) rfl
theorem wd_971 : (.instanceMethod yX12_areBeside : Cond) ∈ gT := gt_5 (List.mem_of_getElem? (i := 11) (by decide +kernel)) rfl
theorem wd_972 : (.code yX12_areBeside cX12_areBeside 4 (some .boolean) : Cond) ∈ gT := gt_5 (List.mem_of_getElem? (i := 12) (rfl)) rfl
theorem wd_973 : (.methodLink R_law 89 yX12_nights : Cond) ∈ gT := gt_5 (List.mem_of_getElem? (i := 13) (by decide +kernel)) rfl
theorem wd_974 : (.instanceMethod yX12_nights : Cond) ∈ gT := gt_5 (List.mem_of_getElem? (i := 14) (by decide +kernel)) rfl
theorem wd_975 : (.selects RX12 yX12_nights yX12_nights : Cond) ∈ gT := gt_5 (List.mem_of_getElem? (i := 15) (by decide +kernel)) rfl
theorem wd_976 : (.code yX12_nights cX12_nights 5 (some .int) : Cond) ∈ gT := gt_5 (List.mem_of_getElem? (i := 16) (rfl)) rfl
theorem wd_977 : (.methodLink RX12 173 yX12_apartNow : Cond) ∈ gT := gt_5 (List.mem_of_getElem? (i := 17) (by decide +kernel)) rfl
theorem wd_979 : (.instanceMethod yX12_apartNow : Cond) ∈ gT := gt_5 (List.mem_of_getElem? (i := 19) (by decide +kernel)) rfl
theorem wd_980 : (.code yX12_apartNow cX12_apartNow 4 (some .int) : Cond) ∈ gT := gt_5 (List.mem_of_getElem? (i := 20) (rfl)) rfl
theorem wd_981 : (.methodLink RX12 176 yX12_goNight : Cond) ∈ gT := gt_5 (List.mem_of_getElem? (i := 21) (by decide +kernel)) rfl
theorem wd_983 : (.instanceMethod yX12_goNight : Cond) ∈ gT := gt_5 (List.mem_of_getElem? (i := 23) (by decide +kernel)) rfl
theorem wd_984 : (.code yX12_goNight cX12_goNight 6 none : Cond) ∈ gT := gt_5 (List.mem_of_getElem? (i := 24) (rfl)) rfl
theorem wd_985 : (.methodLink R_law 93 yX12_reading : Cond) ∈ gT := gt_5 (List.mem_of_getElem? (i := 25) (by decide +kernel)) rfl
theorem wd_986 : (.instanceMethod yX12_reading : Cond) ∈ gT := gt_5 (List.mem_of_getElem? (i := 26) (by decide +kernel)) rfl
theorem wd_987 : (.selects RX12 yX12_reading yX12_reading : Cond) ∈ gT := gt_5 (List.mem_of_getElem? (i := 27) (by decide +kernel)) rfl
theorem wd_988 : (.code yX12_reading cX12_reading 4 (some .int) : Cond) ∈ gT := gt_5 (List.mem_of_getElem? (i := 28) (rfl)) rfl
theorem wd_989 : (.methodLink R_law 97 yX12_back : Cond) ∈ gT := gt_5 (List.mem_of_getElem? (i := 29) (by decide +kernel)) rfl
theorem wd_990 : (.instanceMethod yX12_back : Cond) ∈ gT := gt_5 (List.mem_of_getElem? (i := 30) (by decide +kernel)) rfl
theorem wd_991 : (.selects RX12 yX12_back yX12_back : Cond) ∈ gT := gt_5 (List.mem_of_getElem? (i := 31) (by decide +kernel)) rfl
theorem wd_992 : (.code yX12_back cX12_back 2 (some .int) : Cond) ∈ gT := gt_5 (List.mem_of_getElem? (i := 32) (rfl)) rfl
theorem wd_993 : (.methodLink R_law 101 yX12_kinds : Cond) ∈ gT := gt_5 (List.mem_of_getElem? (i := 33) (by decide +kernel)) rfl
theorem wd_994 : (.instanceMethod yX12_kinds : Cond) ∈ gT := gt_5 (List.mem_of_getElem? (i := 34) (by decide +kernel)) rfl
theorem wd_995 : (.selects RX12 yX12_kinds yX12_kinds : Cond) ∈ gT := gt_5 (List.mem_of_getElem? (i := 35) (by decide +kernel)) rfl
theorem wd_996 : (.code yX12_kinds cX12_kinds 4 (some .int) : Cond) ∈ gT := gt_5 (List.mem_of_getElem? (i := 36) (rfl)) rfl
theorem wd_997 : (.methodLink RX12 179 yX12_isKind : Cond) ∈ gT := gt_5 (List.mem_of_getElem? (i := 37) (by decide +kernel)) rfl
theorem wd_999 : (.instanceMethod yX12_isKind : Cond) ∈ gT := gt_5 (List.mem_of_getElem? (i := 39) (by decide +kernel)) rfl
theorem wd_1000 : (.code yX12_isKind cX12_isKind 4 (some .boolean) : Cond) ∈ gT := gt_5 (List.mem_of_getElem? (i := 40) (rfl)) rfl
theorem wd_1001 : (.methodLink R_law 105 yX12_sheet : Cond) ∈ gT := gt_5 (List.mem_of_getElem? (i := 41) (by decide +kernel)) rfl
theorem wd_1002 : (.instanceMethod yX12_sheet : Cond) ∈ gT := gt_5 (List.mem_of_getElem? (i := 42) (by decide +kernel)) rfl
theorem wd_1003 : (.selects RX12 yX12_sheet yX12_sheet : Cond) ∈ gT := gt_5 (List.mem_of_getElem? (i := 43) (by decide +kernel)) rfl
theorem wd_1004 : (.code yX12_sheet cX12_sheet 5 (some .int) : Cond) ∈ gT := gt_5 (List.mem_of_getElem? (i := 44) (rfl)) rfl
theorem wd_1005 : (.methodLink R_law 109 yX12_lose : Cond) ∈ gT := gt_5 (List.mem_of_getElem? (i := 45) (by decide +kernel)) rfl
theorem wd_1006 : (.instanceMethod yX12_lose : Cond) ∈ gT := gt_5 (List.mem_of_getElem? (i := 46) (by decide +kernel)) rfl
theorem wd_1007 : (.selects RX12 yX12_lose yX12_lose : Cond) ∈ gT := gt_5 (List.mem_of_getElem? (i := 47) (by decide +kernel)) rfl
theorem wd_1008 : (.code yX12_lose cX12_lose 3 (some .int) : Cond) ∈ gT := gt_5 (List.mem_of_getElem? (i := 48) (rfl)) rfl
theorem wd_1009 : (.methodLink R_law 113 yX12_put : Cond) ∈ gT := gt_5 (List.mem_of_getElem? (i := 49) (by decide +kernel)) rfl
theorem wd_1010 : (.instanceMethod yX12_put : Cond) ∈ gT := gt_5 (List.mem_of_getElem? (i := 50) (by decide +kernel)) rfl
theorem wd_1011 : (.selects RX12 yX12_put yX12_put : Cond) ∈ gT := gt_5 (List.mem_of_getElem? (i := 51) (by decide +kernel)) rfl
theorem wd_1012 : (.code yX12_put cX12_put 4 (some .int) : Cond) ∈ gT := gt_5 (List.mem_of_getElem? (i := 52) (rfl)) rfl
theorem wd_1013 : (.methodLink R_law 118 yX12_cell : Cond) ∈ gT := gt_5 (List.mem_of_getElem? (i := 53) (by decide +kernel)) rfl
theorem wd_1014 : (.instanceMethod yX12_cell : Cond) ∈ gT := gt_5 (List.mem_of_getElem? (i := 54) (by decide +kernel)) rfl
theorem wd_1015 : (.selects RX12 yX12_cell yX12_cell : Cond) ∈ gT := gt_5 (List.mem_of_getElem? (i := 55) (by decide +kernel)) rfl
theorem wd_1016 : (.code yX12_cell cX12_cell 4 (some .long) : Cond) ∈ gT := gt_5 (List.mem_of_getElem? (i := 56) (rfl)) rfl
theorem wd_1017 : (.constantLong RX12 66 (-9223372036854775808 : Int64) : Cond) ∈ gT := gt_5 (List.mem_of_getElem? (i := 57) (by decide +kernel)) rfl
theorem wd_1018 : (.methodLink RX12 182 yX12_lost : Cond) ∈ gT := gt_5 (List.mem_of_getElem? (i := 58) (by decide +kernel)) rfl
theorem wd_1020 : (.instanceMethod yX12_lost : Cond) ∈ gT := gt_5 (List.mem_of_getElem? (i := 60) (by decide +kernel)) rfl
theorem wd_1021 : (.code yX12_lost cX12_lost 2 (some .long) : Cond) ∈ gT := gt_5 (List.mem_of_getElem? (i := 61) (rfl)) rfl
theorem wd_1022 : (.methodLink R_law 122 yX12_copy : Cond) ∈ gT := gt_5 (List.mem_of_getElem? (i := 62) (by decide +kernel)) rfl
theorem wd_1023 : (.instanceMethod yX12_copy : Cond) ∈ gT := gt_5 (List.mem_of_getElem? (i := 63) (by decide +kernel)) rfl
theorem wd_1024 : (.selects RX12 yX12_copy yX12_copy : Cond) ∈ gT := gt_5 (List.mem_of_getElem? (i := 64) (by decide +kernel)) rfl
theorem wd_1025 : (.code yX12_copy cX12_copy 10 (some .int) : Cond) ∈ gT := gt_5 (List.mem_of_getElem? (i := 65) (rfl)) rfl
theorem wd_1026 : (.methodLink R_law 126 yX12_tell : Cond) ∈ gT := gt_5 (List.mem_of_getElem? (i := 66) (by decide +kernel)) rfl
theorem wd_1027 : (.instanceMethod yX12_tell : Cond) ∈ gT := gt_5 (List.mem_of_getElem? (i := 67) (by decide +kernel)) rfl
theorem wd_1028 : (.selects RX12 yX12_tell yX12_tell : Cond) ∈ gT := gt_5 (List.mem_of_getElem? (i := 68) (by decide +kernel)) rfl
theorem wd_1029 : (.code yX12_tell cX12_tell 3 (some .int) : Cond) ∈ gT := gt_5 (List.mem_of_getElem? (i := 69) (rfl)) rfl
theorem wd_1030 : (.methodLink RX12 189 yX12_begins : Cond) ∈ gT := gt_5 (List.mem_of_getElem? (i := 70) (by decide +kernel)) rfl
theorem wd_1032 : (.instanceMethod yX12_begins : Cond) ∈ gT := gt_5 (List.mem_of_getElem? (i := 72) (by decide +kernel)) rfl
theorem wd_1033 : (.code yX12_begins cX12_begins 2 none : Cond) ∈ gT := gt_5 (List.mem_of_getElem? (i := 73) (rfl)) rfl
theorem wd_1034 : (.methodLink R_law 130 yX12_tread : Cond) ∈ gT := gt_5 (List.mem_of_getElem? (i := 74) (by decide +kernel)) rfl
theorem wd_1035 : (.instanceMethod yX12_tread : Cond) ∈ gT := gt_5 (List.mem_of_getElem? (i := 75) (by decide +kernel)) rfl
theorem wd_1036 : (.selects RX12 yX12_tread yX12_tread : Cond) ∈ gT := gt_5 (List.mem_of_getElem? (i := 76) (by decide +kernel)) rfl
theorem wd_1037 : (.code yX12_tread cX12_tread 2 (some .int) : Cond) ∈ gT := gt_5 (List.mem_of_getElem? (i := 77) (rfl)) rfl
theorem wd_1038 : (.methodLink R_law 134 yX12_as : Cond) ∈ gT := gt_5 (List.mem_of_getElem? (i := 78) (by decide +kernel)) rfl
theorem wd_1039 : (.instanceMethod yX12_as : Cond) ∈ gT := gt_5 (List.mem_of_getElem? (i := 79) (by decide +kernel)) rfl
theorem wd_1040 : (.selects RX12 yX12_as yX12_as : Cond) ∈ gT := gt_5 (List.mem_of_getElem? (i := 80) (by decide +kernel)) rfl
theorem wd_1041 : (.code yX12_as cX12_as 3 (some .int) : Cond) ∈ gT := gt_5 (List.mem_of_getElem? (i := 81) (rfl)) rfl
theorem wd_1042 : (.methodLink R_law 139 yX12_trace : Cond) ∈ gT := gt_5 (List.mem_of_getElem? (i := 82) (by decide +kernel)) rfl
theorem wd_1043 : (.instanceMethod yX12_trace : Cond) ∈ gT := gt_5 (List.mem_of_getElem? (i := 83) (by decide +kernel)) rfl
theorem wd_1044 : (.selects RX12 yX12_trace yX12_trace : Cond) ∈ gT := gt_5 (List.mem_of_getElem? (i := 84) (by decide +kernel)) rfl
theorem wd_1045 : (.code yX12_trace cX12_trace 1 (some .int) : Cond) ∈ gT := gt_5 (List.mem_of_getElem? (i := 85) (rfl)) rfl
theorem wd_1046 : (.methodLink R_law 143 yX12_fault : Cond) ∈ gT := gt_5 (List.mem_of_getElem? (i := 86) (by decide +kernel)) rfl
theorem wd_1047 : (.instanceMethod yX12_fault : Cond) ∈ gT := gt_5 (List.mem_of_getElem? (i := 87) (by decide +kernel)) rfl
theorem wd_1048 : (.selects RX12 yX12_fault yX12_fault : Cond) ∈ gT := gt_5 (List.mem_of_getElem? (i := 88) (by decide +kernel)) rfl
theorem wd_1049 : (.code yX12_fault cX12_fault 1 (some .int) : Cond) ∈ gT := gt_5 (List.mem_of_getElem? (i := 89) (rfl)) rfl
theorem wd_1050 : (.methodLink R_law 147 yX12_many : Cond) ∈ gT := gt_5 (List.mem_of_getElem? (i := 90) (by decide +kernel)) rfl
theorem wd_1051 : (.instanceMethod yX12_many : Cond) ∈ gT := gt_5 (List.mem_of_getElem? (i := 91) (by decide +kernel)) rfl
theorem wd_1052 : (.selects RX12 yX12_many yX12_many : Cond) ∈ gT := gt_5 (List.mem_of_getElem? (i := 92) (by decide +kernel)) rfl
theorem wd_1053 : (.code yX12_many cX12_many 2 (some .int) : Cond) ∈ gT := gt_5 (List.mem_of_getElem? (i := 93) (rfl)) rfl
theorem wd_1054 : (.sameMethod "BreathSquare$Clay" "BreathSquare$Clay" "swell" "(II)I" : Cond) ∈ gT := gt_5 (List.mem_of_getElem? (i := 94) (by decide +kernel)) rfl
theorem wd_1055 : (.sameMethod "BreathSquare$Clay" "BreathSquare$Clay" "telling" "(ILBreathSquare$Trace;)I" : Cond) ∈ gT := gt_5 (List.mem_of_getElem? (i := 95) (by decide +kernel)) rfl
theorem wd_1056 : (.sameMethod "BreathSquare$Stone" "BreathSquare$Stone" "stoneTelling" "(ILBreathSquare$Trace;)I" : Cond) ∈ gT := gt_5 (List.mem_of_getElem? (i := 96) (by decide +kernel)) rfl
theorem wd_1057 : (.selects RX0 yX7_stoneTelling yX7_stoneTelling : Cond) ∈ gT := gt_5 (List.mem_of_getElem? (i := 97) (by decide +kernel)) rfl
theorem wd_1058 : (.selects RX1 yX7_stoneTelling yX7_stoneTelling : Cond) ∈ gT := gt_5 (List.mem_of_getElem? (i := 98) (by decide +kernel)) rfl
theorem wd_1059 : (.selects RX7 yX7_stoneTelling yX7_stoneTelling : Cond) ∈ gT := gt_5 (List.mem_of_getElem? (i := 99) (by decide +kernel)) rfl
theorem wn_1060 : (.castable RX0 RX7 : Cond) ∈ lw_tbl := lt_5 (List.mem_of_getElem? (i := 100) (by decide +kernel))
theorem wn_1061 : (.castable RX1 RX7 : Cond) ∈ lw_tbl := lt_5 (List.mem_of_getElem? (i := 101) (by decide +kernel))
theorem ws_X11_failed : (.selects RX11 yX11_failed yX11_failed : Cond) ∈ gT := List.mem_filter.mpr ⟨List.mem_append_left _ (List.mem_map.mpr ⟨(⟨"BreathSquare", "failed", "(I)I"⟩, 9), List.mem_of_getElem? (i := 0) (by decide +kernel), rfl⟩), rfl⟩
theorem ws_X10_apartTo : (.selects RX10 yX10_apartTo yX10_apartTo : Cond) ∈ gT := List.mem_filter.mpr ⟨List.mem_append_left _ (List.mem_map.mpr ⟨(⟨"BreathSquare$Ways", "apartTo", "(II)I"⟩, 6), List.mem_of_getElem? (i := 1) (by decide +kernel), rfl⟩), rfl⟩
theorem ws_X10_stepAt : (.selects RX10 yX10_stepAt yX10_stepAt : Cond) ∈ gT := List.mem_filter.mpr ⟨List.mem_append_left _ (List.mem_map.mpr ⟨(⟨"BreathSquare$Ways", "stepAt", "(III)I"⟩, 6), List.mem_of_getElem? (i := 2) (by decide +kernel), rfl⟩), rfl⟩
theorem ws_X10_nextOnWay : (.selects RX10 yX10_nextOnWay yX10_nextOnWay : Cond) ∈ gT := List.mem_filter.mpr ⟨List.mem_append_left _ (List.mem_map.mpr ⟨(⟨"BreathSquare$Ways", "nextOnWay", "(II)I"⟩, 6), List.mem_of_getElem? (i := 3) (by decide +kernel), rfl⟩), rfl⟩
theorem ws_X10_leastByNeighbours : (.selects RX10 yX10_leastByNeighbours yX10_leastByNeighbours : Cond) ∈ gT := List.mem_filter.mpr ⟨List.mem_append_left _ (List.mem_map.mpr ⟨(⟨"BreathSquare$Ways", "leastByNeighbours", "(I)I"⟩, 6), List.mem_of_getElem? (i := 4) (by decide +kernel), rfl⟩), rfl⟩
theorem ws_X11_refusalOf : (.selects RX11 yX11_refusalOf yX11_refusalOf : Cond) ∈ gT := List.mem_filter.mpr ⟨List.mem_append_left _ (List.mem_map.mpr ⟨(⟨"BreathSquare", "refusalOf", "(IZ)I"⟩, 9), List.mem_of_getElem? (i := 5) (by decide +kernel), rfl⟩), rfl⟩
theorem ws_X4_areClear : (.selects RX4 yX4_areClear yX4_areClear : Cond) ∈ gT := List.mem_filter.mpr ⟨List.mem_append_left _ (List.mem_map.mpr ⟨(⟨"BreathSquare$Places", "areClear", "(II)Z"⟩, 6), List.mem_of_getElem? (i := 6) (by decide +kernel), rfl⟩), rfl⟩
theorem ws_X4_takePair : (.selects RX4 yX4_takePair yX4_takePair : Cond) ∈ gT := List.mem_filter.mpr ⟨List.mem_append_left _ (List.mem_map.mpr ⟨(⟨"BreathSquare$Places", "takePair", "(III)V"⟩, 6), List.mem_of_getElem? (i := 7) (by decide +kernel), rfl⟩), rfl⟩
theorem ws_X4_sizeOf : (.selects RX4 yX4_sizeOf yX4_sizeOf : Cond) ∈ gT := List.mem_filter.mpr ⟨List.mem_append_left _ (List.mem_map.mpr ⟨(⟨"BreathSquare$Places", "sizeOf", "(II)I"⟩, 6), List.mem_of_getElem? (i := 8) (by decide +kernel), rfl⟩), rfl⟩
theorem ws_X4_spread : (.selects RX4 yX4_spread yX4_spread : Cond) ∈ gT := List.mem_filter.mpr ⟨List.mem_append_left _ (List.mem_map.mpr ⟨(⟨"BreathSquare$Places", "spread", "(II)I"⟩, 6), List.mem_of_getElem? (i := 9) (by decide +kernel), rfl⟩), rfl⟩
theorem ws_X9_lowestBeside : (.selects RX9 yX9_lowestBeside yX9_lowestBeside : Cond) ∈ gT := List.mem_filter.mpr ⟨List.mem_append_left _ (List.mem_map.mpr ⟨(⟨"BreathSquare$Water", "lowestBeside", "(I)I"⟩, 3), List.mem_of_getElem? (i := 10) (by decide +kernel), rfl⟩), rfl⟩
theorem ws_X2_putInOrder : (.selects RX2 yX2_putInOrder yX2_putInOrder : Cond) ∈ gT := List.mem_filter.mpr ⟨List.mem_append_left _ (List.mem_map.mpr ⟨(⟨"BreathSquare$Mason", "putInOrder", "(I)V"⟩, 2), List.mem_of_getElem? (i := 11) (by decide +kernel), rfl⟩), rfl⟩
theorem ws_X5_areAllSo : (.selects RX5 yX5_areAllSo yX5_areAllSo : Cond) ∈ gT := List.mem_filter.mpr ⟨List.mem_append_left _ (List.mem_map.mpr ⟨(⟨"BreathSquare$Readings", "areAllSo", "(II)Z"⟩, 5), List.mem_of_getElem? (i := 12) (by decide +kernel), rfl⟩), rfl⟩
theorem ws_X12_against : (.selects RX12 yX12_against yX12_against : Cond) ∈ gT := List.mem_filter.mpr ⟨List.mem_append_left _ (List.mem_map.mpr ⟨(⟨"BreathSquareModel", "against", "(IIII)I"⟩, 25), List.mem_of_getElem? (i := 13) (by decide +kernel), rfl⟩), rfl⟩
theorem ws_X12_fails : (.selects RX12 yX12_fails yX12_fails : Cond) ∈ gT := List.mem_filter.mpr ⟨List.mem_append_left _ (List.mem_map.mpr ⟨(⟨"BreathSquareModel", "fails", "(I)I"⟩, 25), List.mem_of_getElem? (i := 14) (by decide +kernel), rfl⟩), rfl⟩
theorem ws_X12_readSquare : (.selects RX12 yX12_readSquare yX12_readSquare : Cond) ∈ gT := List.mem_filter.mpr ⟨List.mem_append_left _ (List.mem_map.mpr ⟨(⟨"BreathSquareModel", "readSquare", "(I)Z"⟩, 25), List.mem_of_getElem? (i := 15) (by decide +kernel), rfl⟩), rfl⟩
theorem ws_X12_digit : (.selects RX12 yX12_digit yX12_digit : Cond) ∈ gT := List.mem_filter.mpr ⟨List.mem_append_left _ (List.mem_map.mpr ⟨(⟨"BreathSquareModel", "digit", "(III)I"⟩, 25), List.mem_of_getElem? (i := 16) (by decide +kernel), rfl⟩), rfl⟩
theorem ws_X12_readStone : (.selects RX12 yX12_readStone yX12_readStone : Cond) ∈ gT := List.mem_filter.mpr ⟨List.mem_append_left _ (List.mem_map.mpr ⟨(⟨"BreathSquareModel", "readStone", "(II)Z"⟩, 25), List.mem_of_getElem? (i := 17) (by decide +kernel), rfl⟩), rfl⟩
theorem ws_X12_all : (.selects RX12 yX12_all yX12_all : Cond) ∈ gT := List.mem_filter.mpr ⟨List.mem_append_left _ (List.mem_map.mpr ⟨(⟨"BreathSquareModel", "all", "()I"⟩, 25), List.mem_of_getElem? (i := 18) (by decide +kernel), rfl⟩), rfl⟩
theorem ws_X12_isStone : (.selects RX12 yX12_isStone yX12_isStone : Cond) ∈ gT := List.mem_filter.mpr ⟨List.mem_append_left _ (List.mem_map.mpr ⟨(⟨"BreathSquareModel", "isStone", "(I)Z"⟩, 25), List.mem_of_getElem? (i := 19) (by decide +kernel), rfl⟩), rfl⟩
theorem ws_X12_heightOf : (.selects RX12 yX12_heightOf yX12_heightOf : Cond) ∈ gT := List.mem_filter.mpr ⟨List.mem_append_left _ (List.mem_map.mpr ⟨(⟨"BreathSquareModel", "heightOf", "(II)I"⟩, 25), List.mem_of_getElem? (i := 20) (by decide +kernel), rfl⟩), rfl⟩
theorem ws_X12_heightAs : (.selects RX12 yX12_heightAs yX12_heightAs : Cond) ∈ gT := List.mem_filter.mpr ⟨List.mem_append_left _ (List.mem_map.mpr ⟨(⟨"BreathSquareModel", "heightAs", "(III)I"⟩, 25), List.mem_of_getElem? (i := 21) (by decide +kernel), rfl⟩), rfl⟩
theorem ws_X12_findFar : (.selects RX12 yX12_findFar yX12_findFar : Cond) ∈ gT := List.mem_filter.mpr ⟨List.mem_append_left _ (List.mem_map.mpr ⟨(⟨"BreathSquareModel", "findFar", "(IIII)V"⟩, 25), List.mem_of_getElem? (i := 22) (by decide +kernel), rfl⟩), rfl⟩
theorem ws_X12_beside : (.selects RX12 yX12_beside yX12_beside : Cond) ∈ gT := List.mem_filter.mpr ⟨List.mem_append_left _ (List.mem_map.mpr ⟨(⟨"BreathSquareModel", "beside", "(II)I"⟩, 25), List.mem_of_getElem? (i := 23) (by decide +kernel), rfl⟩), rfl⟩
theorem ws_X12_isStep : (.selects RX12 yX12_isStep yX12_isStep : Cond) ∈ gT := List.mem_filter.mpr ⟨List.mem_append_left _ (List.mem_map.mpr ⟨(⟨"BreathSquareModel", "isStep", "(IIIII)Z"⟩, 25), List.mem_of_getElem? (i := 24) (by decide +kernel), rfl⟩), rfl⟩
theorem ws_X12_isPlace : (.selects RX12 yX12_isPlace yX12_isPlace : Cond) ∈ gT := List.mem_filter.mpr ⟨List.mem_append_left _ (List.mem_map.mpr ⟨(⟨"BreathSquareModel", "isPlace", "(I)Z"⟩, 25), List.mem_of_getElem? (i := 25) (by decide +kernel), rfl⟩), rfl⟩
theorem ws_X12_wedgesOf : (.selects RX12 yX12_wedgesOf yX12_wedgesOf : Cond) ∈ gT := List.mem_filter.mpr ⟨List.mem_append_left _ (List.mem_map.mpr ⟨(⟨"BreathSquareModel", "wedgesOf", "(II)I"⟩, 25), List.mem_of_getElem? (i := 26) (by decide +kernel), rfl⟩), rfl⟩
theorem ws_X12_areApart : (.selects RX12 yX12_areApart yX12_areApart : Cond) ∈ gT := List.mem_filter.mpr ⟨List.mem_append_left _ (List.mem_map.mpr ⟨(⟨"BreathSquareModel", "areApart", "(II)Z"⟩, 25), List.mem_of_getElem? (i := 27) (by decide +kernel), rfl⟩), rfl⟩
theorem ws_X12_apartOf : (.selects RX12 yX12_apartOf yX12_apartOf : Cond) ∈ gT := List.mem_filter.mpr ⟨List.mem_append_left _ (List.mem_map.mpr ⟨(⟨"BreathSquareModel", "apartOf", "(III)I"⟩, 25), List.mem_of_getElem? (i := 28) (by decide +kernel), rfl⟩), rfl⟩
theorem ws_X12_findWater : (.selects RX12 yX12_findWater yX12_findWater : Cond) ∈ gT := List.mem_filter.mpr ⟨List.mem_append_left _ (List.mem_map.mpr ⟨(⟨"BreathSquareModel", "findWater", "(I)V"⟩, 25), List.mem_of_getElem? (i := 29) (by decide +kernel), rfl⟩), rfl⟩
theorem ws_X12_isEdge : (.selects RX12 yX12_isEdge yX12_isEdge : Cond) ∈ gT := List.mem_filter.mpr ⟨List.mem_append_left _ (List.mem_map.mpr ⟨(⟨"BreathSquareModel", "isEdge", "(I)Z"⟩, 25), List.mem_of_getElem? (i := 30) (by decide +kernel), rfl⟩), rfl⟩
theorem ws_X12_poolOf : (.selects RX12 yX12_poolOf yX12_poolOf : Cond) ∈ gT := List.mem_filter.mpr ⟨List.mem_append_left _ (List.mem_map.mpr ⟨(⟨"BreathSquareModel", "poolOf", "(I)I"⟩, 25), List.mem_of_getElem? (i := 31) (by decide +kernel), rfl⟩), rfl⟩
theorem ws_X12_areBeside : (.selects RX12 yX12_areBeside yX12_areBeside : Cond) ∈ gT := List.mem_filter.mpr ⟨List.mem_append_left _ (List.mem_map.mpr ⟨(⟨"BreathSquareModel", "areBeside", "(II)Z"⟩, 25), List.mem_of_getElem? (i := 32) (by decide +kernel), rfl⟩), rfl⟩
theorem ws_X12_apartNow : (.selects RX12 yX12_apartNow yX12_apartNow : Cond) ∈ gT := List.mem_filter.mpr ⟨List.mem_append_left _ (List.mem_map.mpr ⟨(⟨"BreathSquareModel", "apartNow", "()I"⟩, 25), List.mem_of_getElem? (i := 33) (by decide +kernel), rfl⟩), rfl⟩
theorem ws_X12_goNight : (.selects RX12 yX12_goNight yX12_goNight : Cond) ∈ gT := List.mem_filter.mpr ⟨List.mem_append_left _ (List.mem_map.mpr ⟨(⟨"BreathSquareModel", "goNight", "(I)V"⟩, 25), List.mem_of_getElem? (i := 34) (by decide +kernel), rfl⟩), rfl⟩
theorem ws_X12_isKind : (.selects RX12 yX12_isKind yX12_isKind : Cond) ∈ gT := List.mem_filter.mpr ⟨List.mem_append_left _ (List.mem_map.mpr ⟨(⟨"BreathSquareModel", "isKind", "(II)Z"⟩, 25), List.mem_of_getElem? (i := 35) (by decide +kernel), rfl⟩), rfl⟩
theorem ws_X12_lost : (.selects RX12 yX12_lost yX12_lost : Cond) ∈ gT := List.mem_filter.mpr ⟨List.mem_append_left _ (List.mem_map.mpr ⟨(⟨"BreathSquareModel", "lost", "(I)J"⟩, 25), List.mem_of_getElem? (i := 36) (by decide +kernel), rfl⟩), rfl⟩
theorem ws_X12_begins : (.selects RX12 yX12_begins yX12_begins : Cond) ∈ gT := List.mem_filter.mpr ⟨List.mem_append_left _ (List.mem_map.mpr ⟨(⟨"BreathSquareModel", "begins", "(I)V"⟩, 25), List.mem_of_getElem? (i := 37) (by decide +kernel), rfl⟩), rfl⟩
theorem giX0 : ∀ w ∈ wsX00, w ∈ gT := fun w h => List.mem_filter.mpr ⟨(by decide +kernel : ∀ w ∈ wsX00, w ∈ lw_tbl) w h, (by decide +kernel : ∀ w ∈ wsX00, goodWord w = true) w h⟩
theorem giX1 : ∀ w ∈ wsX10, w ∈ gT := fun w h => List.mem_filter.mpr ⟨(by decide +kernel : ∀ w ∈ wsX10, w ∈ lw_tbl) w h, (by decide +kernel : ∀ w ∈ wsX10, goodWord w = true) w h⟩
theorem giX2 : ∀ w ∈ wsX20, w ∈ gT := fun w h => List.mem_filter.mpr ⟨(by decide +kernel : ∀ w ∈ wsX20, w ∈ lw_tbl) w h, (by decide +kernel : ∀ w ∈ wsX20, goodWord w = true) w h⟩
theorem giX3 : ∀ w ∈ wsX30, w ∈ gT := fun w h => List.mem_filter.mpr ⟨(by decide +kernel : ∀ w ∈ wsX30, w ∈ lw_tbl) w h, (by decide +kernel : ∀ w ∈ wsX30, goodWord w = true) w h⟩
theorem giX4 : ∀ w ∈ wsX40, w ∈ gT := fun w h => List.mem_filter.mpr ⟨(by decide +kernel : ∀ w ∈ wsX40, w ∈ lw_tbl) w h, (by decide +kernel : ∀ w ∈ wsX40, goodWord w = true) w h⟩
theorem giX5 : ∀ w ∈ wsX50, w ∈ gT := fun w h => List.mem_filter.mpr ⟨(by decide +kernel : ∀ w ∈ wsX50, w ∈ lw_tbl) w h, (by decide +kernel : ∀ w ∈ wsX50, goodWord w = true) w h⟩
theorem giX6 : ∀ w ∈ wsX60, w ∈ gT := fun w h => List.mem_filter.mpr ⟨(by decide +kernel : ∀ w ∈ wsX60, w ∈ lw_tbl) w h, (by decide +kernel : ∀ w ∈ wsX60, goodWord w = true) w h⟩
theorem giX7 : ∀ w ∈ wsX70, w ∈ gT := fun w h => List.mem_filter.mpr ⟨(by decide +kernel : ∀ w ∈ wsX70, w ∈ lw_tbl) w h, (by decide +kernel : ∀ w ∈ wsX70, goodWord w = true) w h⟩
theorem giX8 : ∀ w ∈ wsX80, w ∈ gT := fun w h => List.mem_filter.mpr ⟨(by decide +kernel : ∀ w ∈ wsX80, w ∈ lw_tbl) w h, (by decide +kernel : ∀ w ∈ wsX80, goodWord w = true) w h⟩
theorem giX9 : ∀ w ∈ wsX90, w ∈ gT := fun w h => List.mem_filter.mpr ⟨(by decide +kernel : ∀ w ∈ wsX90, w ∈ lw_tbl) w h, (by decide +kernel : ∀ w ∈ wsX90, goodWord w = true) w h⟩
theorem giX10 : ∀ w ∈ wsX100, w ∈ gT := fun w h => List.mem_filter.mpr ⟨(by decide +kernel : ∀ w ∈ wsX100, w ∈ lw_tbl) w h, (by decide +kernel : ∀ w ∈ wsX100, goodWord w = true) w h⟩
theorem giX11 : ∀ w ∈ wsX110, w ∈ gT := fun w h => List.mem_filter.mpr ⟨(by decide +kernel : ∀ w ∈ wsX110, w ∈ lw_tbl) w h, (by decide +kernel : ∀ w ∈ wsX110, goodWord w = true) w h⟩
theorem giX12 : ∀ w ∈ wsX120, w ∈ gT := fun w h => List.mem_filter.mpr ⟨(by decide +kernel : ∀ w ∈ wsX120, w ∈ lw_tbl) w h, (by decide +kernel : ∀ w ∈ wsX120, goodWord w = true) w h⟩
