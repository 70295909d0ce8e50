def en_wl : List Cond := lw_tbl.filter goodWord
theorem en_wl_in : ∀ w ∈ en_wl, w ∈ lw_tbl := fun _ h => (List.mem_filter.mp h).1
theorem en_wl_good : ∀ w ∈ en_wl, (w.onTables && w.keeps) = true ∨ ∃ ty, w = .arrayClass ty := fun _ h => good_of_word (List.mem_filter.mp h).2
theorem en_t1 {w : Cond} (h : w ∈ tables_1_1) : w ∈ lw_tbl := List.mem_append_right _ (by unfold tables_1; exact List.mem_append_left _ h)
theorem en_m1 {w : Cond} (h : w ∈ tables_1_1) (g : goodWord w = true) : w ∈ en_wl := List.mem_filter.mpr ⟨en_t1 h, g⟩
theorem en_t2 {w : Cond} (h : w ∈ tables_1_2) : w ∈ lw_tbl := List.mem_append_right _ (by unfold tables_1; exact List.mem_append_right _ (List.mem_append_left _ h))
theorem en_m2 {w : Cond} (h : w ∈ tables_1_2) (g : goodWord w = true) : w ∈ en_wl := List.mem_filter.mpr ⟨en_t2 h, g⟩
theorem en_t3 {w : Cond} (h : w ∈ tables_1_3) : w ∈ lw_tbl := List.mem_append_right _ (by unfold tables_1; exact List.mem_append_right _ (List.mem_append_right _ (List.mem_append_left _ h)))
theorem en_m3 {w : Cond} (h : w ∈ tables_1_3) (g : goodWord w = true) : w ∈ en_wl := List.mem_filter.mpr ⟨en_t3 h, g⟩
theorem en_t4 {w : Cond} (h : w ∈ tables_1_4) : w ∈ lw_tbl := List.mem_append_right _ (by unfold tables_1; exact List.mem_append_right _ (List.mem_append_right _ (List.mem_append_right _ (List.mem_append_left _ h))))
theorem en_m4 {w : Cond} (h : w ∈ tables_1_4) (g : goodWord w = true) : w ∈ en_wl := List.mem_filter.mpr ⟨en_t4 h, g⟩
theorem en_t5 {w : Cond} (h : w ∈ tables_1_5) : w ∈ lw_tbl := List.mem_append_right _ (by unfold tables_1; exact List.mem_append_right _ (List.mem_append_right _ (List.mem_append_right _ (List.mem_append_right _ (List.mem_append_left _ h)))))
theorem en_m5 {w : Cond} (h : w ∈ tables_1_5) (g : goodWord w = true) : w ∈ en_wl := List.mem_filter.mpr ⟨en_t5 h, g⟩
theorem en_t6 {w : Cond} (h : w ∈ tables_1_6) : w ∈ lw_tbl := List.mem_append_right _ (by unfold tables_1; exact List.mem_append_right _ (List.mem_append_right _ (List.mem_append_right _ (List.mem_append_right _ (List.mem_append_right _ (List.mem_append_left _ h))))))
theorem en_m6 {w : Cond} (h : w ∈ tables_1_6) (g : goodWord w = true) : w ∈ en_wl := List.mem_filter.mpr ⟨en_t6 h, g⟩
theorem en_t7 {w : Cond} (h : w ∈ tables_1_7) : w ∈ lw_tbl := List.mem_append_right _ (by unfold tables_1; exact List.mem_append_right _ (List.mem_append_right _ (List.mem_append_right _ (List.mem_append_right _ (List.mem_append_right _ (List.mem_append_right _ (h)))))))
theorem en_m7 {w : Cond} (h : w ∈ tables_1_7) (g : goodWord w = true) : w ∈ en_wl := List.mem_filter.mpr ⟨en_t7 h, g⟩
theorem en_ms {q : MethodName × Nat} (h : q ∈ lw_privs) (g : goodWord (.selects q.1.cls q.1 q.1) = true) : (.selects q.1.cls q.1 q.1 : Cond) ∈ en_wl := List.mem_filter.mpr ⟨List.mem_append_left _ (List.mem_map.mpr ⟨q, h, rfl⟩), g⟩
theorem wm_0 : (.code yX11_init cX11_init 1 (none) : Cond) ∈ en_wl := en_m1 (List.mem_of_getElem? (i := 31) rfl) rfl
theorem wm_1 : (.instanceMethod yX11_init : Cond) ∈ en_wl := en_m1 (List.mem_of_getElem? (i := 30) rfl) rfl
theorem wm_2 : (.initialized RX11 : Cond) ∈ en_wl := en_m1 (List.mem_of_getElem? (i := 1) rfl) rfl
theorem wm_3 : (.methodLink RX11 1 objectInit : Cond) ∈ en_wl := en_m1 (List.mem_of_getElem? (i := 32) rfl) rfl
theorem wm_4 : (.classLink RX11 7 RX8 : Cond) ∈ en_wl := en_m1 (List.mem_of_getElem? (i := 35) rfl) rfl
theorem wm_5 : (.instantiable RX8 2 : Cond) ∈ en_wl := en_m1 (List.mem_of_getElem? (i := 36) rfl) rfl
theorem wm_6 : (.initialized RX8 : Cond) ∈ en_wl := en_m1 (List.mem_of_getElem? (i := 2) rfl) rfl
theorem wm_7 : (.methodLinkNest RX11 9 yX8_init RX11 : Cond) ∈ lw_tbl := en_t1 (List.mem_of_getElem? (i := 37) rfl)
theorem wm_8 : (.fieldLink RX11 10 "EachMayMissOne" "text" "LEachMayMissOne$Text;" : Cond) ∈ en_wl := en_m2 (List.mem_of_getElem? (i := 87) rfl) rfl
theorem wm_9 : (.classLink RX11 16 RX9 : Cond) ∈ en_wl := en_m1 (List.mem_of_getElem? (i := 53) rfl) rfl
theorem wm_10 : (.instantiable RX9 2 : Cond) ∈ en_wl := en_m1 (List.mem_of_getElem? (i := 54) rfl) rfl
theorem wm_11 : (.initialized RX9 : Cond) ∈ en_wl := en_m1 (List.mem_of_getElem? (i := 3) rfl) rfl
theorem wm_12 : (.methodLinkNest RX11 18 yX9_init RX11 : Cond) ∈ lw_tbl := en_t1 (List.mem_of_getElem? (i := 55) rfl)
theorem wm_13 : (.fieldLink RX11 19 "EachMayMissOne" "told" "LEachMayMissOne$Told;" : Cond) ∈ en_wl := en_m2 (List.mem_of_getElem? (i := 88) rfl) rfl
theorem wm_14 : (.classLink RX11 23 RX10 : Cond) ∈ en_wl := en_m1 (List.mem_of_getElem? (i := 68) rfl) rfl
theorem wm_15 : (.instantiable RX10 7 : Cond) ∈ en_wl := en_m1 (List.mem_of_getElem? (i := 69) rfl) rfl
theorem wm_16 : (.initialized RX10 : Cond) ∈ en_wl := en_m1 (List.mem_of_getElem? (i := 4) rfl) rfl
theorem wm_17 : (.methodLinkNest RX11 25 yX10_init RX11 : Cond) ∈ lw_tbl := en_t1 (List.mem_of_getElem? (i := 70) rfl)
theorem wm_18 : (.fieldLink RX11 26 "EachMayMissOne" "tower" "LEachMayMissOne$Tower;" : Cond) ∈ en_wl := en_m2 (List.mem_of_getElem? (i := 89) rfl) rfl
theorem wm_19 : (.classLink RX11 30 RX7 : Cond) ∈ en_wl := en_m1 (List.mem_of_getElem? (i := 162) rfl) rfl
theorem wm_20 : (.instantiable RX7 10 : Cond) ∈ en_wl := en_m1 (List.mem_of_getElem? (i := 163) rfl) rfl
theorem wm_21 : (.initialized RX7 : Cond) ∈ en_wl := en_m1 (List.mem_of_getElem? (i := 8) rfl) rfl
theorem wm_22 : (.methodLinkNest RX11 32 yX7_init RX11 : Cond) ∈ lw_tbl := en_t1 (List.mem_of_getElem? (i := 164) rfl)
theorem wm_23 : (.fieldLink RX11 33 "EachMayMissOne" "live" "LEachMayMissOne$State;" : Cond) ∈ en_wl := en_m2 (List.mem_of_getElem? (i := 90) rfl) rfl
theorem wm_24 : (.fieldLink RX11 37 "EachMayMissOne" "trial" "LEachMayMissOne$State;" : Cond) ∈ en_wl := en_m2 (List.mem_of_getElem? (i := 91) rfl) rfl
theorem wm_25 : (.classLink RX11 40 RX4 : Cond) ∈ en_wl := en_m1 (List.mem_of_getElem? (i := 225) rfl) rfl
theorem wm_26 : (.instantiable RX4 3 : Cond) ∈ en_wl := en_m1 (List.mem_of_getElem? (i := 226) rfl) rfl
theorem wm_27 : (.initialized RX4 : Cond) ∈ en_wl := en_m1 (List.mem_of_getElem? (i := 9) rfl) rfl
theorem wm_28 : (.methodLink RX11 42 yX4_init : Cond) ∈ en_wl := en_m1 (List.mem_of_getElem? (i := 227) rfl) rfl
theorem wm_29 : (.fieldLink RX11 43 "EachMayMissOne" "past" "LEachMayMissOne$Past;" : Cond) ∈ en_wl := en_m2 (List.mem_of_getElem? (i := 92) rfl) rfl
theorem wm_30 : (.classLink RX11 47 RX1 : Cond) ∈ en_wl := en_m2 (List.mem_of_getElem? (i := 5) rfl) rfl
theorem wm_31 : (.instantiable RX1 2 : Cond) ∈ en_wl := en_m2 (List.mem_of_getElem? (i := 6) rfl) rfl
theorem wm_32 : (.initialized RX1 : Cond) ∈ en_wl := en_m1 (List.mem_of_getElem? (i := 10) rfl) rfl
theorem wm_33 : (.methodLink RX11 49 yX1_init : Cond) ∈ en_wl := en_m2 (List.mem_of_getElem? (i := 7) rfl) rfl
theorem wm_34 : (.fieldLink RX11 50 "EachMayMissOne" "kept" "LEachMayMissOne$Kept;" : Cond) ∈ en_wl := en_m2 (List.mem_of_getElem? (i := 93) rfl) rfl
theorem wm_35 : (.classLink RX11 54 RX2 : Cond) ∈ en_wl := en_m2 (List.mem_of_getElem? (i := 21) rfl) rfl
theorem wm_36 : (.instantiable RX2 3 : Cond) ∈ en_wl := en_m2 (List.mem_of_getElem? (i := 22) rfl) rfl
theorem wm_37 : (.initialized RX2 : Cond) ∈ en_wl := en_m1 (List.mem_of_getElem? (i := 11) rfl) rfl
theorem wm_38 : (.methodLinkNest RX11 56 yX2_init RX11 : Cond) ∈ lw_tbl := en_t2 (List.mem_of_getElem? (i := 23) rfl)
theorem wm_39 : (.fieldLink RX11 57 "EachMayMissOne" "acts" "LEachMayMissOne$Night;" : Cond) ∈ en_wl := en_m2 (List.mem_of_getElem? (i := 94) rfl) rfl
theorem wm_40 : (.classLink RX11 61 RX5 : Cond) ∈ en_wl := en_m2 (List.mem_of_getElem? (i := 40) rfl) rfl
theorem wm_41 : (.instantiable RX5 7 : Cond) ∈ en_wl := en_m2 (List.mem_of_getElem? (i := 41) rfl) rfl
theorem wm_42 : (.initialized RX5 : Cond) ∈ en_wl := en_m1 (List.mem_of_getElem? (i := 12) rfl) rfl
theorem wm_43 : (.methodLinkNest RX11 63 yX5_init RX11 : Cond) ∈ lw_tbl := en_t2 (List.mem_of_getElem? (i := 42) rfl)
theorem wm_44 : (.fieldLink RX11 64 "EachMayMissOne" "plan" "LEachMayMissOne$Plan;" : Cond) ∈ en_wl := en_m2 (List.mem_of_getElem? (i := 95) rfl) rfl
theorem wm_45 : (.classLink RX11 68 RX3 : Cond) ∈ en_wl := en_m2 (List.mem_of_getElem? (i := 70) rfl) rfl
theorem wm_46 : (.instantiable RX3 3 : Cond) ∈ en_wl := en_m2 (List.mem_of_getElem? (i := 71) rfl) rfl
theorem wm_47 : (.initialized RX3 : Cond) ∈ en_wl := en_m1 (List.mem_of_getElem? (i := 13) rfl) rfl
theorem wm_48 : (.methodLinkNest RX11 70 yX3_init RX11 : Cond) ∈ lw_tbl := en_t2 (List.mem_of_getElem? (i := 72) rfl)
theorem wm_49 : (.fieldLink RX11 71 "EachMayMissOne" "pairs" "LEachMayMissOne$Pairs;" : Cond) ∈ en_wl := en_m2 (List.mem_of_getElem? (i := 96) rfl) rfl
theorem wm_50 : (.fieldLink RX11 75 "EachMayMissOne" "ahead" "[I" : Cond) ∈ en_wl := en_m2 (List.mem_of_getElem? (i := 97) rfl) rfl
theorem wm_51 : (.fieldLink RX11 79 "EachMayMissOne" "wanted" "[I" : Cond) ∈ en_wl := en_m2 (List.mem_of_getElem? (i := 98) rfl) rfl
theorem wm_52 : (.fieldLink RX11 82 "EachMayMissOne" "least" "[I" : Cond) ∈ en_wl := en_m2 (List.mem_of_getElem? (i := 99) rfl) rfl
theorem wm_53 : (.code yX11_sign cX11_sign 2 (some .int) : Cond) ∈ en_wl := en_m2 (List.mem_of_getElem? (i := 133) rfl) rfl
theorem wm_54 : (.instanceMethod yX11_sign : Cond) ∈ en_wl := en_m2 (List.mem_of_getElem? (i := 131) rfl) rfl
theorem wm_55 : (.selects RX11 yX11_sign yX11_sign : Cond) ∈ en_wl := en_m2 (List.mem_of_getElem? (i := 132) rfl) rfl
theorem wm_56 : (.methodLink RX11 85 yX8_addFour : Cond) ∈ en_wl := en_m2 (List.mem_of_getElem? (i := 134) rfl) rfl
theorem wm_57 : (.fieldLink RX11 89 "EachMayMissOne$Text" "length" "I" : Cond) ∈ en_wl := en_m1 (List.mem_of_getElem? (i := 45) rfl) rfl
theorem wm_58 : (.code yX11_end cX11_end 2 (some .boolean) : Cond) ∈ en_wl := en_m2 (List.mem_of_getElem? (i := 141) rfl) rfl
theorem wm_59 : (.instanceMethod yX11_end : Cond) ∈ en_wl := en_m2 (List.mem_of_getElem? (i := 139) rfl) rfl
theorem wm_60 : (.selects RX11 yX11_end yX11_end : Cond) ∈ en_wl := en_m2 (List.mem_of_getElem? (i := 140) rfl) rfl
theorem wm_61 : (.methodLink RX11 93 yX8_cutTo : Cond) ∈ en_wl := en_m2 (List.mem_of_getElem? (i := 142) rfl) rfl
theorem wm_62 : (.code yX11_tower cX11_tower 2 (some .int) : Cond) ∈ en_wl := en_m2 (List.mem_of_getElem? (i := 149) rfl) rfl
theorem wm_63 : (.instanceMethod yX11_tower : Cond) ∈ en_wl := en_m2 (List.mem_of_getElem? (i := 147) rfl) rfl
theorem wm_64 : (.selects RX11 yX11_tower yX11_tower : Cond) ∈ en_wl := en_m2 (List.mem_of_getElem? (i := 148) rfl) rfl
theorem wm_65 : (.methodLink RX11 96 yX10_readWeights : Cond) ∈ en_wl := en_m2 (List.mem_of_getElem? (i := 150) rfl) rfl
theorem wm_66 : (.methodLink RX11 100 yX8_clear : Cond) ∈ en_wl := en_m2 (List.mem_of_getElem? (i := 165) rfl) rfl
theorem wm_67 : (.methodLink RX11 103 yX7_begin : Cond) ∈ en_wl := en_m2 (List.mem_of_getElem? (i := 169) rfl) rfl
theorem wm_68 : (.methodLink RX11 106 yX4_forget : Cond) ∈ en_wl := en_m2 (List.mem_of_getElem? (i := 176) rfl) rfl
theorem wm_69 : (.methodLink RX11 109 yX1_forget : Cond) ∈ en_wl := en_m2 (List.mem_of_getElem? (i := 180) rfl) rfl
theorem wm_70 : (.code yX11_method cX11_method 2 (some .int) : Cond) ∈ en_wl := en_m2 (List.mem_of_getElem? (i := 187) rfl) rfl
theorem wm_71 : (.instanceMethod yX11_method : Cond) ∈ en_wl := en_m2 (List.mem_of_getElem? (i := 185) rfl) rfl
theorem wm_72 : (.selects RX11 yX11_method yX11_method : Cond) ∈ en_wl := en_m2 (List.mem_of_getElem? (i := 186) rfl) rfl
theorem wm_73 : (.fieldLink RX11 110 "EachMayMissOne$Tower" "changes" "LEachMayMissOne$Changes;" : Cond) ∈ en_wl := en_m1 (List.mem_of_getElem? (i := 135) rfl) rfl
theorem wm_74 : (.fieldLink RX11 114 "EachMayMissOne$Tower" "bells" "I" : Cond) ∈ en_wl := en_m1 (List.mem_of_getElem? (i := 140) rfl) rfl
theorem wm_75 : (.methodLink RX11 117 yX0_read : Cond) ∈ en_wl := en_m2 (List.mem_of_getElem? (i := 188) rfl) rfl
theorem wm_76 : (.code yX11_rule cX11_rule 2 (some .int) : Cond) ∈ en_wl := en_m2 (List.mem_of_getElem? (i := 209) rfl) rfl
theorem wm_77 : (.instanceMethod yX11_rule : Cond) ∈ en_wl := en_m2 (List.mem_of_getElem? (i := 207) rfl) rfl
theorem wm_78 : (.selects RX11 yX11_rule yX11_rule : Cond) ∈ en_wl := en_m2 (List.mem_of_getElem? (i := 208) rfl) rfl
theorem wm_79 : (.fieldLink RX11 123 "EachMayMissOne$Tower" "rule" "LEachMayMissOne$Rule;" : Cond) ∈ en_wl := en_m1 (List.mem_of_getElem? (i := 137) rfl) rfl
theorem wm_80 : (.methodLink RX11 127 yX6_read : Cond) ∈ en_wl := en_m2 (List.mem_of_getElem? (i := 210) rfl) rfl
theorem wm_81 : (.code yX11_ringer cX11_ringer 3 (some .int) : Cond) ∈ en_wl := en_m5 (List.mem_of_getElem? (i := 91) rfl) rfl
theorem wm_82 : (.instanceMethod yX11_ringer : Cond) ∈ en_wl := en_m5 (List.mem_of_getElem? (i := 89) rfl) rfl
theorem wm_83 : (.selects RX11 yX11_ringer yX11_ringer : Cond) ∈ en_wl := en_m5 (List.mem_of_getElem? (i := 90) rfl) rfl
theorem wm_84 : (.methodLink RX11 131 yX10_hasRinger : Cond) ∈ en_wl := en_m3 (List.mem_of_getElem? (i := 205) rfl) rfl
theorem wm_85 : (.fieldLink RX11 141 "EachMayMissOne$Tower" "weights" "[I" : Cond) ∈ en_wl := en_m1 (List.mem_of_getElem? (i := 133) rfl) rfl
theorem wm_86 : (.fieldLink RX11 144 "EachMayMissOne$State" "tired" "[I" : Cond) ∈ en_wl := en_m1 (List.mem_of_getElem? (i := 176) rfl) rfl
theorem wm_87 : (.fieldLink RX11 147 "EachMayMissOne$State" "slept" "[I" : Cond) ∈ en_wl := en_m1 (List.mem_of_getElem? (i := 179) rfl) rfl
theorem wm_88 : (.fieldLink RX11 150 "EachMayMissOne$State" "drifts" "[I" : Cond) ∈ en_wl := en_m1 (List.mem_of_getElem? (i := 181) rfl) rfl
theorem wm_89 : (.fieldLink RX11 153 "EachMayMissOne$State" "order" "I" : Cond) ∈ en_wl := en_m1 (List.mem_of_getElem? (i := 186) rfl) rfl
theorem wm_90 : (.methodLink RX11 156 yX11_placeOf : Cond) ∈ en_wl := en_m4 (List.mem_of_getElem? (i := 69) rfl) rfl
theorem wm_91 : (.fieldLink RX11 160 "EachMayMissOne$State" "who" "I" : Cond) ∈ en_wl := en_m1 (List.mem_of_getElem? (i := 195) rfl) rfl
theorem wm_92 : (.methodLink RX11 163 yX11_bit : Cond) ∈ en_wl := en_m3 (List.mem_of_getElem? (i := 146) rfl) rfl
theorem wm_93 : (.methodLink RX11 166 yX10_moreTired : Cond) ∈ en_wl := en_m5 (List.mem_of_getElem? (i := 157) rfl) rfl
theorem wm_94 : (.code yX11_bell cX11_bell 2 (some .int) : Cond) ∈ en_wl := en_m5 (List.mem_of_getElem? (i := 165) rfl) rfl
theorem wm_95 : (.instanceMethod yX11_bell : Cond) ∈ en_wl := en_m5 (List.mem_of_getElem? (i := 163) rfl) rfl
theorem wm_96 : (.selects RX11 yX11_bell yX11_bell : Cond) ∈ en_wl := en_m5 (List.mem_of_getElem? (i := 164) rfl) rfl
theorem wm_97 : (.methodLink RX11 174 yX11_bellAt : Cond) ∈ en_wl := en_m3 (List.mem_of_getElem? (i := 143) rfl) rfl
theorem wm_98 : (.code yX11_set cX11_set 4 (some .int) : Cond) ∈ en_wl := en_m3 (List.mem_of_getElem? (i := 93) rfl) rfl
theorem wm_99 : (.instanceMethod yX11_set : Cond) ∈ en_wl := en_m3 (List.mem_of_getElem? (i := 91) rfl) rfl
theorem wm_100 : (.selects RX11 yX11_set yX11_set : Cond) ∈ en_wl := en_m3 (List.mem_of_getElem? (i := 92) rfl) rfl
theorem wm_101 : (.fieldLink RX11 177 "EachMayMissOne$Tower" "most" "I" : Cond) ∈ en_wl := en_m1 (List.mem_of_getElem? (i := 144) rfl) rfl
theorem wm_102 : (.fieldLink RX11 180 "EachMayMissOne$Tower" "rest" "I" : Cond) ∈ en_wl := en_m1 (List.mem_of_getElem? (i := 146) rfl) rfl
theorem wm_103 : (.code yX11_sheet cX11_sheet 7 (some .int) : Cond) ∈ en_wl := en_m3 (List.mem_of_getElem? (i := 97) rfl) rfl
theorem wm_104 : (.instanceMethod yX11_sheet : Cond) ∈ en_wl := en_m3 (List.mem_of_getElem? (i := 95) rfl) rfl
theorem wm_105 : (.selects RX11 yX11_sheet yX11_sheet : Cond) ∈ en_wl := en_m3 (List.mem_of_getElem? (i := 96) rfl) rfl
theorem wm_106 : (.methodLink RX11 183 yX11_narrowed : Cond) ∈ en_wl := en_m3 (List.mem_of_getElem? (i := 98) rfl) rfl
theorem wm_107 : (.methodLink RX11 186 yX11_put : Cond) ∈ en_wl := en_m3 (List.mem_of_getElem? (i := 101) rfl) rfl
theorem wm_108 : (.methodLink RX11 190 yX11_sum : Cond) ∈ en_wl := en_m3 (List.mem_of_getElem? (i := 106) rfl) rfl
theorem wm_109 : (.code yX11_round cX11_round 3 (some .int) : Cond) ∈ en_wl := en_m3 (List.mem_of_getElem? (i := 112) rfl) rfl
theorem wm_110 : (.instanceMethod yX11_round : Cond) ∈ en_wl := en_m3 (List.mem_of_getElem? (i := 110) rfl) rfl
theorem wm_111 : (.selects RX11 yX11_round yX11_round : Cond) ∈ en_wl := en_m3 (List.mem_of_getElem? (i := 111) rfl) rfl
theorem wm_112 : (.methodLink RX11 194 yX10_hasAll : Cond) ∈ en_wl := en_m3 (List.mem_of_getElem? (i := 113) rfl) rfl
theorem wm_113 : (.methodLink RX11 197 yX4_push : Cond) ∈ en_wl := en_m3 (List.mem_of_getElem? (i := 117) rfl) rfl
theorem wm_114 : (.methodLink RX11 201 yX10_ring : Cond) ∈ en_wl := en_m3 (List.mem_of_getElem? (i := 126) rfl) rfl
theorem wm_115 : (.methodLink RX11 205 yX9_begin : Cond) ∈ en_wl := en_m3 (List.mem_of_getElem? (i := 185) rfl) rfl
theorem wm_116 : (.fieldLink RX11 206 "EachMayMissOne$State" "where" "I" : Cond) ∈ en_wl := en_m1 (List.mem_of_getElem? (i := 200) rfl) rfl
theorem wm_117 : (.methodLink RX11 209 yX9_add : Cond) ∈ en_wl := en_m3 (List.mem_of_getElem? (i := 189) rfl) rfl
theorem wm_118 : (.fieldLink RX11 213 "EachMayMissOne$State" "drifted" "I" : Cond) ∈ en_wl := en_m1 (List.mem_of_getElem? (i := 203) rfl) rfl
theorem wm_119 : (.code yX11_rounds cX11_rounds 4 (some .int) : Cond) ∈ en_wl := en_m3 (List.mem_of_getElem? (i := 196) rfl) rfl
theorem wm_120 : (.instanceMethod yX11_rounds : Cond) ∈ en_wl := en_m3 (List.mem_of_getElem? (i := 194) rfl) rfl
theorem wm_121 : (.selects RX11 yX11_rounds yX11_rounds : Cond) ∈ en_wl := en_m3 (List.mem_of_getElem? (i := 195) rfl) rfl
theorem wm_122 : (.methodLink RX11 216 yX11_ringAll : Cond) ∈ en_wl := en_m3 (List.mem_of_getElem? (i := 197) rfl) rfl
theorem wm_123 : (.fieldLink RX11 219 "EachMayMissOne$State" "now" "I" : Cond) ∈ en_wl := en_m1 (List.mem_of_getElem? (i := 189) rfl) rfl
theorem wm_124 : (.code yX11_beer cX11_beer 2 (some .int) : Cond) ∈ en_wl := en_m3 (List.mem_of_getElem? (i := 204) rfl) rfl
theorem wm_125 : (.instanceMethod yX11_beer : Cond) ∈ en_wl := en_m3 (List.mem_of_getElem? (i := 202) rfl) rfl
theorem wm_126 : (.selects RX11 yX11_beer yX11_beer : Cond) ∈ en_wl := en_m3 (List.mem_of_getElem? (i := 203) rfl) rfl
theorem wm_127 : (.methodLink RX11 222 yX7_drink : Cond) ∈ en_wl := en_m3 (List.mem_of_getElem? (i := 209) rfl) rfl
theorem wm_128 : (.code yX11_night cX11_night 5 (some .int) : Cond) ∈ en_wl := en_m3 (List.mem_of_getElem? (i := 217) rfl) rfl
theorem wm_129 : (.instanceMethod yX11_night : Cond) ∈ en_wl := en_m3 (List.mem_of_getElem? (i := 215) rfl) rfl
theorem wm_130 : (.selects RX11 yX11_night yX11_night : Cond) ∈ en_wl := en_m3 (List.mem_of_getElem? (i := 216) rfl) rfl
theorem wm_131 : (.methodLink RX11 225 yX2_read : Cond) ∈ en_wl := en_m3 (List.mem_of_getElem? (i := 218) rfl) rfl
theorem wm_132 : (.methodLink RX11 226 yX11_canBeDone : Cond) ∈ en_wl := en_m4 (List.mem_of_getElem? (i := 4) rfl) rfl
theorem wm_133 : (.fieldLink RX11 229 "EachMayMissOne$State" "deaths" "I" : Cond) ∈ en_wl := en_m1 (List.mem_of_getElem? (i := 192) rfl) rfl
theorem wm_134 : (.methodLink RX11 232 yX11_doAct : Cond) ∈ en_wl := en_m4 (List.mem_of_getElem? (i := 8) rfl) rfl
theorem wm_135 : (.code yX11_undo cX11_undo 1 (some .int) : Cond) ∈ en_wl := en_m4 (List.mem_of_getElem? (i := 15) rfl) rfl
theorem wm_136 : (.instanceMethod yX11_undo : Cond) ∈ en_wl := en_m4 (List.mem_of_getElem? (i := 13) rfl) rfl
theorem wm_137 : (.selects RX11 yX11_undo yX11_undo : Cond) ∈ en_wl := en_m4 (List.mem_of_getElem? (i := 14) rfl) rfl
theorem wm_138 : (.methodLink RX11 235 yX4_pop : Cond) ∈ en_wl := en_m4 (List.mem_of_getElem? (i := 16) rfl) rfl
theorem wm_139 : (.fieldLink RX11 239 "EachMayMissOne$Past" "size" "I" : Cond) ∈ en_wl := en_m1 (List.mem_of_getElem? (i := 237) rfl) rfl
theorem wm_140 : (.code yX11_order cX11_order 3 (some .int) : Cond) ∈ en_wl := en_m4 (List.mem_of_getElem? (i := 23) rfl) rfl
theorem wm_141 : (.instanceMethod yX11_order : Cond) ∈ en_wl := en_m4 (List.mem_of_getElem? (i := 21) rfl) rfl
theorem wm_142 : (.selects RX11 yX11_order yX11_order : Cond) ∈ en_wl := en_m4 (List.mem_of_getElem? (i := 22) rfl) rfl
theorem wm_143 : (.methodLink RX11 242 yX11_lookAhead : Cond) ∈ en_wl := en_m4 (List.mem_of_getElem? (i := 24) rfl) rfl
theorem wm_144 : (.code yX11_truth cX11_truth 3 (some .int) : Cond) ∈ en_wl := en_m4 (List.mem_of_getElem? (i := 32) rfl) rfl
theorem wm_145 : (.instanceMethod yX11_truth : Cond) ∈ en_wl := en_m4 (List.mem_of_getElem? (i := 30) rfl) rfl
theorem wm_146 : (.selects RX11 yX11_truth yX11_truth : Cond) ∈ en_wl := en_m4 (List.mem_of_getElem? (i := 31) rfl) rfl
theorem wm_147 : (.methodLink RX11 245 yX11_firstAhead : Cond) ∈ en_wl := en_m4 (List.mem_of_getElem? (i := 33) rfl) rfl
theorem wm_148 : (.code yX11_lead cX11_lead 2 (some .int) : Cond) ∈ en_wl := en_m4 (List.mem_of_getElem? (i := 40) rfl) rfl
theorem wm_149 : (.instanceMethod yX11_lead : Cond) ∈ en_wl := en_m4 (List.mem_of_getElem? (i := 38) rfl) rfl
theorem wm_150 : (.selects RX11 yX11_lead yX11_lead : Cond) ∈ en_wl := en_m4 (List.mem_of_getElem? (i := 39) rfl) rfl
theorem wm_151 : (.methodLink RX11 248 yX0_sameChange : Cond) ∈ en_wl := en_m4 (List.mem_of_getElem? (i := 41) rfl) rfl
theorem wm_152 : (.code yX11_leads cX11_leads 6 (some .int) : Cond) ∈ en_wl := en_m4 (List.mem_of_getElem? (i := 48) rfl) rfl
theorem wm_153 : (.instanceMethod yX11_leads : Cond) ∈ en_wl := en_m4 (List.mem_of_getElem? (i := 46) rfl) rfl
theorem wm_154 : (.selects RX11 yX11_leads yX11_leads : Cond) ∈ en_wl := en_m4 (List.mem_of_getElem? (i := 47) rfl) rfl
theorem wm_155 : (.code yX11_comes cX11_comes 5 (some .int) : Cond) ∈ en_wl := en_m4 (List.mem_of_getElem? (i := 52) rfl) rfl
theorem wm_156 : (.instanceMethod yX11_comes : Cond) ∈ en_wl := en_m4 (List.mem_of_getElem? (i := 50) rfl) rfl
theorem wm_157 : (.selects RX11 yX11_comes yX11_comes : Cond) ∈ en_wl := en_m4 (List.mem_of_getElem? (i := 51) rfl) rfl
theorem wm_158 : (.methodLink RX11 252 yX11_readOrder : Cond) ∈ en_wl := en_m4 (List.mem_of_getElem? (i := 53) rfl) rfl
theorem wm_159 : (.code yX11_course cX11_course 8 (some .int) : Cond) ∈ en_wl := en_m4 (List.mem_of_getElem? (i := 63) rfl) rfl
theorem wm_160 : (.instanceMethod yX11_course : Cond) ∈ en_wl := en_m4 (List.mem_of_getElem? (i := 61) rfl) rfl
theorem wm_161 : (.selects RX11 yX11_course yX11_course : Cond) ∈ en_wl := en_m4 (List.mem_of_getElem? (i := 62) rfl) rfl
theorem wm_162 : (.methodLink RX11 256 yX10_hasTwo : Cond) ∈ en_wl := en_m4 (List.mem_of_getElem? (i := 64) rfl) rfl
theorem wm_163 : (.code yX11_may cX11_may 2 (some .int) : Cond) ∈ en_wl := en_m4 (List.mem_of_getElem? (i := 73) rfl) rfl
theorem wm_164 : (.instanceMethod yX11_may : Cond) ∈ en_wl := en_m4 (List.mem_of_getElem? (i := 71) rfl) rfl
theorem wm_165 : (.selects RX11 yX11_may yX11_may : Cond) ∈ en_wl := en_m4 (List.mem_of_getElem? (i := 72) rfl) rfl
theorem wm_166 : (.methodLink RX11 259 yX11_brokenNow : Cond) ∈ en_wl := en_m4 (List.mem_of_getElem? (i := 74) rfl) rfl
theorem wm_167 : (.code yX11_lawful cX11_lawful 5 (some .int) : Cond) ∈ en_wl := en_m4 (List.mem_of_getElem? (i := 82) rfl) rfl
theorem wm_168 : (.instanceMethod yX11_lawful : Cond) ∈ en_wl := en_m4 (List.mem_of_getElem? (i := 80) rfl) rfl
theorem wm_169 : (.selects RX11 yX11_lawful yX11_lawful : Cond) ∈ en_wl := en_m4 (List.mem_of_getElem? (i := 81) rfl) rfl
theorem wm_170 : (.methodLink RX11 262 yX7_tiredOf : Cond) ∈ en_wl := en_m4 (List.mem_of_getElem? (i := 83) rfl) rfl
theorem wm_171 : (.code yX11_covers cX11_covers 7 (some .int) : Cond) ∈ en_wl := en_m4 (List.mem_of_getElem? (i := 91) rfl) rfl
theorem wm_172 : (.instanceMethod yX11_covers : Cond) ∈ en_wl := en_m4 (List.mem_of_getElem? (i := 89) rfl) rfl
theorem wm_173 : (.selects RX11 yX11_covers yX11_covers : Cond) ∈ en_wl := en_m4 (List.mem_of_getElem? (i := 90) rfl) rfl
theorem wm_174 : (.code yX11_rivals cX11_rivals 5 (some .int) : Cond) ∈ en_wl := en_m4 (List.mem_of_getElem? (i := 95) rfl) rfl
theorem wm_175 : (.instanceMethod yX11_rivals : Cond) ∈ en_wl := en_m4 (List.mem_of_getElem? (i := 93) rfl) rfl
theorem wm_176 : (.selects RX11 yX11_rivals yX11_rivals : Cond) ∈ en_wl := en_m4 (List.mem_of_getElem? (i := 94) rfl) rfl
theorem wm_177 : (.methodLink RX11 265 yX11_roundsInTurn : Cond) ∈ en_wl := en_m4 (List.mem_of_getElem? (i := 96) rfl) rfl
theorem wm_178 : (.fieldLink RX11 269 "EachMayMissOne" "broken" "I" : Cond) ∈ en_wl := en_m2 (List.mem_of_getElem? (i := 100) rfl) rfl
theorem wm_179 : (.code yX11_matches cX11_matches 5 (some .int) : Cond) ∈ en_wl := en_m4 (List.mem_of_getElem? (i := 108) rfl) rfl
theorem wm_180 : (.instanceMethod yX11_matches : Cond) ∈ en_wl := en_m4 (List.mem_of_getElem? (i := 106) rfl) rfl
theorem wm_181 : (.selects RX11 yX11_matches yX11_matches : Cond) ∈ en_wl := en_m4 (List.mem_of_getElem? (i := 107) rfl) rfl
theorem wm_182 : (.methodLink RX11 272 yX3_begin : Cond) ∈ en_wl := en_m4 (List.mem_of_getElem? (i := 109) rfl) rfl
theorem wm_183 : (.methodLink RX11 274 yX3_both : Cond) ∈ en_wl := en_m4 (List.mem_of_getElem? (i := 113) rfl) rfl
theorem wm_184 : (.methodLink RX11 277 yX3_put : Cond) ∈ en_wl := en_m4 (List.mem_of_getElem? (i := 118) rfl) rfl
theorem wm_185 : (.methodLink RX11 280 yX3_match : Cond) ∈ en_wl := en_m4 (List.mem_of_getElem? (i := 122) rfl) rfl
theorem wm_186 : (.code yX11_sleeps cX11_sleeps 2 (some .int) : Cond) ∈ en_wl := en_m4 (List.mem_of_getElem? (i := 150) rfl) rfl
theorem wm_187 : (.instanceMethod yX11_sleeps : Cond) ∈ en_wl := en_m4 (List.mem_of_getElem? (i := 148) rfl) rfl
theorem wm_188 : (.selects RX11 yX11_sleeps yX11_sleeps : Cond) ∈ en_wl := en_m4 (List.mem_of_getElem? (i := 149) rfl) rfl
theorem wm_189 : (.methodLink RX11 284 yX5_prepare : Cond) ∈ en_wl := en_m4 (List.mem_of_getElem? (i := 151) rfl) rfl
theorem wm_190 : (.methodLink RX11 288 yX5_mostMissed : Cond) ∈ en_wl := en_m4 (List.mem_of_getElem? (i := 157) rfl) rfl
theorem wm_191 : (.code yX11_naps cX11_naps 3 (some .int) : Cond) ∈ en_wl := en_m4 (List.mem_of_getElem? (i := 180) rfl) rfl
theorem wm_192 : (.instanceMethod yX11_naps : Cond) ∈ en_wl := en_m4 (List.mem_of_getElem? (i := 178) rfl) rfl
theorem wm_193 : (.selects RX11 yX11_naps yX11_naps : Cond) ∈ en_wl := en_m4 (List.mem_of_getElem? (i := 179) rfl) rfl
theorem wm_194 : (.methodLink RX11 292 yX5_fewestRounds : Cond) ∈ en_wl := en_m4 (List.mem_of_getElem? (i := 181) rfl) rfl
theorem wm_195 : (.code yX11_bound cX11_bound 3 (some .int) : Cond) ∈ en_wl := en_m4 (List.mem_of_getElem? (i := 230) rfl) rfl
theorem wm_196 : (.instanceMethod yX11_bound : Cond) ∈ en_wl := en_m4 (List.mem_of_getElem? (i := 228) rfl) rfl
theorem wm_197 : (.selects RX11 yX11_bound yX11_bound : Cond) ∈ en_wl := en_m4 (List.mem_of_getElem? (i := 229) rfl) rfl
theorem wm_198 : (.code yX11_missed cX11_missed 2 (some .int) : Cond) ∈ en_wl := en_m4 (List.mem_of_getElem? (i := 234) rfl) rfl
theorem wm_199 : (.instanceMethod yX11_missed : Cond) ∈ en_wl := en_m4 (List.mem_of_getElem? (i := 232) rfl) rfl
theorem wm_200 : (.selects RX11 yX11_missed yX11_missed : Cond) ∈ en_wl := en_m4 (List.mem_of_getElem? (i := 233) rfl) rfl
theorem wm_201 : (.methodLink RX11 296 yX7_knows : Cond) ∈ en_wl := en_m4 (List.mem_of_getElem? (i := 235) rfl) rfl
theorem wm_202 : (.methodLink RX11 299 yX7_missedIn : Cond) ∈ en_wl := en_m4 (List.mem_of_getElem? (i := 239) rfl) rfl
theorem wm_203 : (.code yX11_heard cX11_heard 5 (some .int) : Cond) ∈ en_wl := en_m5 (List.mem_of_getElem? (i := 7) rfl) rfl
theorem wm_204 : (.instanceMethod yX11_heard : Cond) ∈ en_wl := en_m5 (List.mem_of_getElem? (i := 5) rfl) rfl
theorem wm_205 : (.selects RX11 yX11_heard yX11_heard : Cond) ∈ en_wl := en_m5 (List.mem_of_getElem? (i := 6) rfl) rfl
theorem wm_206 : (.code yX11_reads cX11_reads 3 (some .int) : Cond) ∈ en_wl := en_m5 (List.mem_of_getElem? (i := 11) rfl) rfl
theorem wm_207 : (.instanceMethod yX11_reads : Cond) ∈ en_wl := en_m5 (List.mem_of_getElem? (i := 9) rfl) rfl
theorem wm_208 : (.selects RX11 yX11_reads yX11_reads : Cond) ∈ en_wl := en_m5 (List.mem_of_getElem? (i := 10) rfl) rfl
theorem wm_209 : (.methodLink RX11 302 yX11_readGaps : Cond) ∈ en_wl := en_m5 (List.mem_of_getElem? (i := 12) rfl) rfl
theorem wm_210 : (.methodLink RX11 305 yX11_firstOf : Cond) ∈ en_wl := en_m5 (List.mem_of_getElem? (i := 16) rfl) rfl
theorem wm_211 : (.methodLink RX11 308 yX11_lawfulRounds : Cond) ∈ en_wl := en_m4 (List.mem_of_getElem? (i := 100) rfl) rfl
theorem wm_212 : (.code yX11_said cX11_said 6 (some .int) : Cond) ∈ en_wl := en_m5 (List.mem_of_getElem? (i := 20) rfl) rfl
theorem wm_213 : (.instanceMethod yX11_said : Cond) ∈ en_wl := en_m5 (List.mem_of_getElem? (i := 18) rfl) rfl
theorem wm_214 : (.selects RX11 yX11_said yX11_said : Cond) ∈ en_wl := en_m5 (List.mem_of_getElem? (i := 19) rfl) rfl
theorem wm_215 : (.code yX11_says cX11_says 7 (some .int) : Cond) ∈ en_wl := en_m5 (List.mem_of_getElem? (i := 24) rfl) rfl
theorem wm_216 : (.instanceMethod yX11_says : Cond) ∈ en_wl := en_m5 (List.mem_of_getElem? (i := 22) rfl) rfl
theorem wm_217 : (.selects RX11 yX11_says yX11_says : Cond) ∈ en_wl := en_m5 (List.mem_of_getElem? (i := 23) rfl) rfl
theorem wm_218 : (.code yX11_fails cX11_fails 1 (some .int) : Cond) ∈ en_wl := en_m5 (List.mem_of_getElem? (i := 28) rfl) rfl
theorem wm_219 : (.instanceMethod yX11_fails : Cond) ∈ en_wl := en_m5 (List.mem_of_getElem? (i := 26) rfl) rfl
theorem wm_220 : (.selects RX11 yX11_fails yX11_fails : Cond) ∈ en_wl := en_m5 (List.mem_of_getElem? (i := 27) rfl) rfl
theorem wm_221 : (.methodLink RX11 311 yX11_firstDrift : Cond) ∈ en_wl := en_m5 (List.mem_of_getElem? (i := 29) rfl) rfl
theorem wm_222 : (.code yX11_lasts cX11_lasts 1 (some .int) : Cond) ∈ en_wl := en_m5 (List.mem_of_getElem? (i := 41) rfl) rfl
theorem wm_223 : (.instanceMethod yX11_lasts : Cond) ∈ en_wl := en_m5 (List.mem_of_getElem? (i := 39) rfl) rfl
theorem wm_224 : (.selects RX11 yX11_lasts yX11_lasts : Cond) ∈ en_wl := en_m5 (List.mem_of_getElem? (i := 40) rfl) rfl
theorem wm_225 : (.code yX11_stout cX11_stout 7 (some .int) : Cond) ∈ en_wl := en_m5 (List.mem_of_getElem? (i := 45) rfl) rfl
theorem wm_226 : (.instanceMethod yX11_stout : Cond) ∈ en_wl := en_m5 (List.mem_of_getElem? (i := 43) rfl) rfl
theorem wm_227 : (.selects RX11 yX11_stout yX11_stout : Cond) ∈ en_wl := en_m5 (List.mem_of_getElem? (i := 44) rfl) rfl
theorem wm_228 : (.methodLink RX11 315 yX11_driftingAfter : Cond) ∈ en_wl := en_m5 (List.mem_of_getElem? (i := 46) rfl) rfl
theorem wm_229 : (.code yX11_weariest cX11_weariest 4 (some .int) : Cond) ∈ en_wl := en_m5 (List.mem_of_getElem? (i := 53) rfl) rfl
theorem wm_230 : (.instanceMethod yX11_weariest : Cond) ∈ en_wl := en_m5 (List.mem_of_getElem? (i := 51) rfl) rfl
theorem wm_231 : (.selects RX11 yX11_weariest yX11_weariest : Cond) ∈ en_wl := en_m5 (List.mem_of_getElem? (i := 52) rfl) rfl
theorem wm_232 : (.methodLink RX11 318 yX7_copy : Cond) ∈ en_wl := en_m5 (List.mem_of_getElem? (i := 33) rfl) rfl
theorem wm_233 : (.methodLink RX11 321 yX11_weariness : Cond) ∈ en_wl := en_m5 (List.mem_of_getElem? (i := 54) rfl) rfl
theorem wm_234 : (.code yX11_coughs cX11_coughs 10 (some .int) : Cond) ∈ en_wl := en_m5 (List.mem_of_getElem? (i := 61) rfl) rfl
theorem wm_235 : (.instanceMethod yX11_coughs : Cond) ∈ en_wl := en_m5 (List.mem_of_getElem? (i := 59) rfl) rfl
theorem wm_236 : (.selects RX11 yX11_coughs yX11_coughs : Cond) ∈ en_wl := en_m5 (List.mem_of_getElem? (i := 60) rfl) rfl
theorem wm_237 : (.constant RX11 324 1103515245 : Cond) ∈ en_wl := en_m5 (List.mem_of_getElem? (i := 62) rfl) rfl
theorem wm_238 : (.code yX11_keep cX11_keep 2 (some .boolean) : Cond) ∈ en_wl := en_m5 (List.mem_of_getElem? (i := 66) rfl) rfl
theorem wm_239 : (.instanceMethod yX11_keep : Cond) ∈ en_wl := en_m5 (List.mem_of_getElem? (i := 64) rfl) rfl
theorem wm_240 : (.selects RX11 yX11_keep yX11_keep : Cond) ∈ en_wl := en_m5 (List.mem_of_getElem? (i := 65) rfl) rfl
theorem wm_241 : (.methodLink RX11 325 yX1_put : Cond) ∈ en_wl := en_m5 (List.mem_of_getElem? (i := 67) rfl) rfl
theorem wm_242 : (.code yX11_again cX11_again 2 (some .boolean) : Cond) ∈ en_wl := en_m5 (List.mem_of_getElem? (i := 75) rfl) rfl
theorem wm_243 : (.instanceMethod yX11_again : Cond) ∈ en_wl := en_m5 (List.mem_of_getElem? (i := 73) rfl) rfl
theorem wm_244 : (.selects RX11 yX11_again yX11_again : Cond) ∈ en_wl := en_m5 (List.mem_of_getElem? (i := 74) rfl) rfl
theorem wm_245 : (.methodLink RX11 328 yX1_restore : Cond) ∈ en_wl := en_m5 (List.mem_of_getElem? (i := 76) rfl) rfl
theorem wm_246 : (.code yX11_count cX11_count 2 (some .int) : Cond) ∈ en_wl := en_m5 (List.mem_of_getElem? (i := 83) rfl) rfl
theorem wm_247 : (.instanceMethod yX11_count : Cond) ∈ en_wl := en_m5 (List.mem_of_getElem? (i := 81) rfl) rfl
theorem wm_248 : (.selects RX11 yX11_count yX11_count : Cond) ∈ en_wl := en_m5 (List.mem_of_getElem? (i := 82) rfl) rfl
theorem wm_249 : (.fieldLink RX11 331 "EachMayMissOne$Changes" "many" "I" : Cond) ∈ en_wl := en_m1 (List.mem_of_getElem? (i := 83) rfl) rfl
theorem wm_250 : (.fieldLink RX11 334 "EachMayMissOne$Tower" "tenor" "I" : Cond) ∈ en_wl := en_m1 (List.mem_of_getElem? (i := 142) rfl) rfl
theorem wm_251 : (.fieldLink RX11 337 "EachMayMissOne$Told" "size" "I" : Cond) ∈ en_wl := en_m1 (List.mem_of_getElem? (i := 62) rfl) rfl
theorem wm_252 : (.code yX11_row cX11_row 2 (some .int) : Cond) ∈ en_wl := en_m5 (List.mem_of_getElem? (i := 173) rfl) rfl
theorem wm_253 : (.instanceMethod yX11_row : Cond) ∈ en_wl := en_m5 (List.mem_of_getElem? (i := 171) rfl) rfl
theorem wm_254 : (.selects RX11 yX11_row yX11_row : Cond) ∈ en_wl := en_m5 (List.mem_of_getElem? (i := 172) rfl) rfl
theorem wm_255 : (.fieldLink RX11 340 "EachMayMissOne$Told" "numbers" "[I" : Cond) ∈ en_wl := en_m1 (List.mem_of_getElem? (i := 60) rfl) rfl
theorem wm_256 : (.code yX11_bit cX11_bit 2 (some .int) : Cond) ∈ en_wl := en_m3 (List.mem_of_getElem? (i := 148) rfl) rfl
theorem wm_257 : (.static yX11_bit : Cond) ∈ en_wl := en_m3 (List.mem_of_getElem? (i := 147) rfl) rfl
theorem wm_258 : (.code yX11_firstOf cX11_firstOf 2 (some .int) : Cond) ∈ en_wl := en_m4 (List.mem_of_getElem? (i := 132) rfl) rfl
theorem wm_259 : (.static yX11_firstOf : Cond) ∈ en_wl := en_m4 (List.mem_of_getElem? (i := 131) rfl) rfl
theorem wm_260 : (.code yX11_put cX11_put 1 (some .int) : Cond) ∈ en_wl := en_m3 (List.mem_of_getElem? (i := 103) rfl) rfl
theorem wm_261 : (.static yX11_put : Cond) ∈ en_wl := en_m3 (List.mem_of_getElem? (i := 102) rfl) rfl
theorem wm_262 : (.code yJ9_min_7cf53 cJ9_min_7cf53 2 (some .int) : Cond) ∈ en_wl := en_m3 (List.mem_of_getElem? (i := 35) rfl) rfl
theorem wm_263 : (.static yJ9_min_7cf53 : Cond) ∈ en_wl := en_m3 (List.mem_of_getElem? (i := 34) rfl) rfl
theorem wm_264 : (.initialized RJ9 : Cond) ∈ en_wl := en_m1 (List.mem_of_getElem? (i := 17) rfl) rfl
theorem wm_265 : (.methodLink RX11 343 yJ9_min_7cf53 : Cond) ∈ en_wl := en_m3 (List.mem_of_getElem? (i := 104) rfl) rfl
theorem wm_266 : (.code yJ9_max_7cf53 cJ9_max_7cf53 2 (some .int) : Cond) ∈ en_wl := en_m3 (List.mem_of_getElem? (i := 32) rfl) rfl
theorem wm_267 : (.static yJ9_max_7cf53 : Cond) ∈ en_wl := en_m3 (List.mem_of_getElem? (i := 31) rfl) rfl
theorem wm_268 : (.methodLink RX11 348 yJ9_max_7cf53 : Cond) ∈ en_wl := en_m3 (List.mem_of_getElem? (i := 105) rfl) rfl
theorem wm_269 : (.code yX11_narrowed cX11_narrowed 2 (some .int) : Cond) ∈ en_wl := en_m3 (List.mem_of_getElem? (i := 100) rfl) rfl
theorem wm_270 : (.static yX11_narrowed : Cond) ∈ en_wl := en_m3 (List.mem_of_getElem? (i := 99) rfl) rfl
theorem wm_271 : (.code yX11_sum cX11_sum 6 (some .int) : Cond) ∈ en_wl := en_m3 (List.mem_of_getElem? (i := 108) rfl) rfl
theorem wm_272 : (.static yX11_sum : Cond) ∈ en_wl := en_m3 (List.mem_of_getElem? (i := 107) rfl) rfl
theorem wm_273 : (.code yX11_cannotStand cX11_cannotStand 1 (some .int) : Cond) ∈ en_wl := en_m2 (List.mem_of_getElem? (i := 160) rfl) rfl
theorem wm_274 : (.static yX11_cannotStand : Cond) ∈ en_wl := en_m2 (List.mem_of_getElem? (i := 159) rfl) rfl
theorem wm_275 : (.code yX11_bellAt cX11_bellAt 2 (some .int) : Cond) ∈ en_wl := en_m3 (List.mem_of_getElem? (i := 145) rfl) rfl
theorem wm_276 : (.static yX11_bellAt : Cond) ∈ en_wl := en_m3 (List.mem_of_getElem? (i := 144) rfl) rfl
theorem wm_277 : (.code yX11_withBell cX11_withBell 3 (some .int) : Cond) ∈ en_wl := en_m1 (List.mem_of_getElem? (i := 173) rfl) rfl
theorem wm_278 : (.static yX11_withBell : Cond) ∈ en_wl := en_m1 (List.mem_of_getElem? (i := 172) rfl) rfl
theorem wm_279 : (.code yX11_placeOf cX11_placeOf 3 (some .int) : Cond) ∈ en_wl := en_m3 (List.mem_of_getElem? (i := 157) rfl) rfl
theorem wm_280 : (.static yX11_placeOf : Cond) ∈ en_wl := en_m3 (List.mem_of_getElem? (i := 156) rfl) rfl
theorem wm_281 : (.code yX11_inPlaceOrder cX11_inPlaceOrder 2 (some .int) : Cond) ∈ en_wl := en_m1 (List.mem_of_getElem? (i := 170) rfl) rfl
theorem wm_282 : (.static yX11_inPlaceOrder : Cond) ∈ en_wl := en_m1 (List.mem_of_getElem? (i := 169) rfl) rfl
theorem wm_283 : (.methodLink RX11 351 yX11_withBell : Cond) ∈ en_wl := en_m1 (List.mem_of_getElem? (i := 171) rfl) rfl
theorem wm_284 : (.code yX11_placesOf cX11_placesOf 4 (some .int) : Cond) ∈ en_wl := en_m3 (List.mem_of_getElem? (i := 142) rfl) rfl
theorem wm_285 : (.static yX11_placesOf : Cond) ∈ en_wl := en_m3 (List.mem_of_getElem? (i := 141) rfl) rfl
theorem wm_286 : (.code yX11_lookAhead cX11_lookAhead 3 (none) : Cond) ∈ en_wl := en_m4 (List.mem_of_getElem? (i := 27) rfl) rfl
theorem wm_287 : (.instanceMethod yX11_lookAhead : Cond) ∈ en_wl := en_m4 (List.mem_of_getElem? (i := 26) rfl) rfl
theorem wm_288 : (.selects RX11 yX11_lookAhead yX11_lookAhead : Cond) ∈ en_wl := en_ms (q := (yX11_lookAhead, 14)) (List.mem_of_getElem? (i := 19) rfl) rfl
theorem wm_289 : (.methodLink RX11 354 yX0_next : Cond) ∈ en_wl := en_m4 (List.mem_of_getElem? (i := 28) rfl) rfl
theorem wm_290 : (.code yX11_firstAhead cX11_firstAhead 4 (some .int) : Cond) ∈ en_wl := en_m4 (List.mem_of_getElem? (i := 36) rfl) rfl
theorem wm_291 : (.instanceMethod yX11_firstAhead : Cond) ∈ en_wl := en_m4 (List.mem_of_getElem? (i := 35) rfl) rfl
theorem wm_292 : (.selects RX11 yX11_firstAhead yX11_firstAhead : Cond) ∈ en_wl := en_ms (q := (yX11_firstAhead, 14)) (List.mem_of_getElem? (i := 20) rfl) rfl
theorem wm_293 : (.code yX11_brokenNow cX11_brokenNow 2 (some .int) : Cond) ∈ en_wl := en_m4 (List.mem_of_getElem? (i := 77) rfl) rfl
theorem wm_294 : (.instanceMethod yX11_brokenNow : Cond) ∈ en_wl := en_m4 (List.mem_of_getElem? (i := 76) rfl) rfl
theorem wm_295 : (.selects RX11 yX11_brokenNow yX11_brokenNow : Cond) ∈ en_wl := en_ms (q := (yX11_brokenNow, 14)) (List.mem_of_getElem? (i := 22) rfl) rfl
theorem wm_296 : (.methodLink RX11 357 yX10_breach : Cond) ∈ en_wl := en_m4 (List.mem_of_getElem? (i := 78) rfl) rfl
theorem wm_297 : (.code yX11_lawfulRounds cX11_lawfulRounds 5 (some .int) : Cond) ∈ en_wl := en_m4 (List.mem_of_getElem? (i := 103) rfl) rfl
theorem wm_298 : (.instanceMethod yX11_lawfulRounds : Cond) ∈ en_wl := en_m4 (List.mem_of_getElem? (i := 102) rfl) rfl
theorem wm_299 : (.selects RX11 yX11_lawfulRounds yX11_lawfulRounds : Cond) ∈ en_wl := en_ms (q := (yX11_lawfulRounds, 14)) (List.mem_of_getElem? (i := 24) rfl) rfl
theorem wm_300 : (.methodLink RX11 361 yX11_placesOf : Cond) ∈ en_wl := en_m4 (List.mem_of_getElem? (i := 104) rfl) rfl
theorem wm_301 : (.code yX11_roundsInTurn cX11_roundsInTurn 5 (some .int) : Cond) ∈ en_wl := en_m4 (List.mem_of_getElem? (i := 99) rfl) rfl
theorem wm_302 : (.instanceMethod yX11_roundsInTurn : Cond) ∈ en_wl := en_m4 (List.mem_of_getElem? (i := 98) rfl) rfl
theorem wm_303 : (.selects RX11 yX11_roundsInTurn yX11_roundsInTurn : Cond) ∈ en_wl := en_ms (q := (yX11_roundsInTurn, 14)) (List.mem_of_getElem? (i := 23) rfl) rfl
theorem wm_304 : (.code yX11_ringAll cX11_ringAll 5 (some .int) : Cond) ∈ en_wl := en_m3 (List.mem_of_getElem? (i := 200) rfl) rfl
theorem wm_305 : (.instanceMethod yX11_ringAll : Cond) ∈ en_wl := en_m3 (List.mem_of_getElem? (i := 199) rfl) rfl
theorem wm_306 : (.selects RX11 yX11_ringAll yX11_ringAll : Cond) ∈ en_wl := en_ms (q := (yX11_ringAll, 14)) (List.mem_of_getElem? (i := 12) rfl) rfl
theorem wm_307 : (.code yX11_canBeDone cX11_canBeDone 3 (some .boolean) : Cond) ∈ en_wl := en_m4 (List.mem_of_getElem? (i := 7) rfl) rfl
theorem wm_308 : (.instanceMethod yX11_canBeDone : Cond) ∈ en_wl := en_m4 (List.mem_of_getElem? (i := 6) rfl) rfl
theorem wm_309 : (.selects RX11 yX11_canBeDone yX11_canBeDone : Cond) ∈ en_wl := en_ms (q := (yX11_canBeDone, 14)) (List.mem_of_getElem? (i := 17) rfl) rfl
theorem wm_310 : (.fieldLink RX11 364 "EachMayMissOne$Night" "many" "I" : Cond) ∈ en_wl := en_m2 (List.mem_of_getElem? (i := 32) rfl) rfl
theorem wm_311 : (.fieldLink RX11 365 "EachMayMissOne$Night" "values" "[I" : Cond) ∈ en_wl := en_m2 (List.mem_of_getElem? (i := 30) rfl) rfl
theorem wm_312 : (.fieldLink RX11 368 "EachMayMissOne$Night" "kinds" "[I" : Cond) ∈ en_wl := en_m2 (List.mem_of_getElem? (i := 28) rfl) rfl
theorem wm_313 : (.code yX11_doAct cX11_doAct 3 (none) : Cond) ∈ en_wl := en_m4 (List.mem_of_getElem? (i := 11) rfl) rfl
theorem wm_314 : (.instanceMethod yX11_doAct : Cond) ∈ en_wl := en_m4 (List.mem_of_getElem? (i := 10) rfl) rfl
theorem wm_315 : (.selects RX11 yX11_doAct yX11_doAct : Cond) ∈ en_wl := en_ms (q := (yX11_doAct, 14)) (List.mem_of_getElem? (i := 18) rfl) rfl
theorem wm_316 : (.code yX11_readOrder cX11_readOrder 5 (some .int) : Cond) ∈ en_wl := en_m4 (List.mem_of_getElem? (i := 56) rfl) rfl
theorem wm_317 : (.instanceMethod yX11_readOrder : Cond) ∈ en_wl := en_m4 (List.mem_of_getElem? (i := 55) rfl) rfl
theorem wm_318 : (.selects RX11 yX11_readOrder yX11_readOrder : Cond) ∈ en_wl := en_ms (q := (yX11_readOrder, 14)) (List.mem_of_getElem? (i := 21) rfl) rfl
theorem wm_319 : (.methodLink RX11 371 yX11_inPlaceOrder : Cond) ∈ en_wl := en_m4 (List.mem_of_getElem? (i := 57) rfl) rfl
theorem wm_320 : (.methodLink RX11 374 yX8_at : Cond) ∈ en_wl := en_m4 (List.mem_of_getElem? (i := 58) rfl) rfl
theorem wm_321 : (.methodLink RX11 377 yX11_cannotStand : Cond) ∈ en_wl := en_m4 (List.mem_of_getElem? (i := 59) rfl) rfl
theorem wm_322 : (.code yX11_readGaps cX11_readGaps 3 (some .int) : Cond) ∈ en_wl := en_m5 (List.mem_of_getElem? (i := 15) rfl) rfl
theorem wm_323 : (.instanceMethod yX11_readGaps : Cond) ∈ en_wl := en_m5 (List.mem_of_getElem? (i := 14) rfl) rfl
theorem wm_324 : (.selects RX11 yX11_readGaps yX11_readGaps : Cond) ∈ en_wl := en_ms (q := (yX11_readGaps, 14)) (List.mem_of_getElem? (i := 41) rfl) rfl
theorem wm_325 : (.code yX11_firstDrift cX11_firstDrift 3 (some .int) : Cond) ∈ en_wl := en_m5 (List.mem_of_getElem? (i := 32) rfl) rfl
theorem wm_326 : (.instanceMethod yX11_firstDrift : Cond) ∈ en_wl := en_m5 (List.mem_of_getElem? (i := 31) rfl) rfl
theorem wm_327 : (.selects RX11 yX11_firstDrift yX11_firstDrift : Cond) ∈ en_wl := en_ms (q := (yX11_firstDrift, 14)) (List.mem_of_getElem? (i := 42) rfl) rfl
theorem wm_328 : (.methodLink RX11 380 yX10_mostTiredThatMay : Cond) ∈ en_wl := en_m5 (List.mem_of_getElem? (i := 34) rfl) rfl
theorem wm_329 : (.code yX11_driftingAfter cX11_driftingAfter 5 (some .int) : Cond) ∈ en_wl := en_m5 (List.mem_of_getElem? (i := 49) rfl) rfl
theorem wm_330 : (.instanceMethod yX11_driftingAfter : Cond) ∈ en_wl := en_m5 (List.mem_of_getElem? (i := 48) rfl) rfl
theorem wm_331 : (.selects RX11 yX11_driftingAfter yX11_driftingAfter : Cond) ∈ en_wl := en_ms (q := (yX11_driftingAfter, 14)) (List.mem_of_getElem? (i := 43) rfl) rfl
theorem wm_332 : (.code yX11_weariness cX11_weariness 2 (some .int) : Cond) ∈ en_wl := en_m5 (List.mem_of_getElem? (i := 57) rfl) rfl
theorem wm_333 : (.instanceMethod yX11_weariness : Cond) ∈ en_wl := en_m5 (List.mem_of_getElem? (i := 56) rfl) rfl
theorem wm_334 : (.selects RX11 yX11_weariness yX11_weariness : Cond) ∈ en_wl := en_ms (q := (yX11_weariness, 14)) (List.mem_of_getElem? (i := 44) rfl) rfl
theorem wm_335 : (.code yX12_init cX12_init 1 (none) : Cond) ∈ en_wl := en_m5 (List.mem_of_getElem? (i := 179) rfl) rfl
theorem wm_336 : (.instanceMethod yX12_init : Cond) ∈ en_wl := en_m5 (List.mem_of_getElem? (i := 178) rfl) rfl
theorem wm_337 : (.initialized RX12 : Cond) ∈ en_wl := en_m1 (List.mem_of_getElem? (i := 14) rfl) rfl
theorem wm_338 : (.methodLink RX12 3 objectInit : Cond) ∈ en_wl := en_m5 (List.mem_of_getElem? (i := 180) rfl) rfl
theorem wm_339 : (.fieldLink RX12 9 "EachMayMissOneModel" "now" "[I" : Cond) ∈ en_wl := en_m5 (List.mem_of_getElem? (i := 181) rfl) rfl
theorem wm_340 : (.fieldLink RX12 13 "EachMayMissOneModel" "weight" "[I" : Cond) ∈ en_wl := en_m5 (List.mem_of_getElem? (i := 183) rfl) rfl
theorem wm_341 : (.fieldLink RX12 16 "EachMayMissOneModel" "change" "[I" : Cond) ∈ en_wl := en_m5 (List.mem_of_getElem? (i := 184) rfl) rfl
theorem wm_342 : (.fieldLink RX12 19 "EachMayMissOneModel" "changes" "I" : Cond) ∈ en_wl := en_m5 (List.mem_of_getElem? (i := 185) rfl) rfl
theorem wm_343 : (.fieldLink RX12 23 "EachMayMissOneModel" "most" "I" : Cond) ∈ en_wl := en_m5 (List.mem_of_getElem? (i := 186) rfl) rfl
theorem wm_344 : (.fieldLink RX12 26 "EachMayMissOneModel" "rest" "I" : Cond) ∈ en_wl := en_m5 (List.mem_of_getElem? (i := 187) rfl) rfl
theorem wm_345 : (.fieldLink RX12 29 "EachMayMissOneModel" "text" "[B" : Cond) ∈ en_wl := en_m5 (List.mem_of_getElem? (i := 188) rfl) rfl
theorem wm_346 : (.fieldLink RX12 33 "EachMayMissOneModel" "row" "[I" : Cond) ∈ en_wl := en_m5 (List.mem_of_getElem? (i := 190) rfl) rfl
theorem wm_347 : (.fieldLink RX12 36 "EachMayMissOneModel" "newChange" "[I" : Cond) ∈ en_wl := en_m5 (List.mem_of_getElem? (i := 198) rfl) rfl
theorem wm_348 : (.fieldLink RX12 39 "EachMayMissOneModel" "rule" "[B" : Cond) ∈ en_wl := en_m5 (List.mem_of_getElem? (i := 199) rfl) rfl
theorem wm_349 : (.fieldLink RX12 42 "EachMayMissOneModel" "asked" "[I" : Cond) ∈ en_wl := en_m5 (List.mem_of_getElem? (i := 202) rfl) rfl
theorem wm_350 : (.fieldLink RX12 45 "EachMayMissOneModel" "undos" "[I" : Cond) ∈ en_wl := en_m5 (List.mem_of_getElem? (i := 203) rfl) rfl
theorem wm_351 : (.fieldLink RX12 48 "EachMayMissOneModel" "aside" "[I" : Cond) ∈ en_wl := en_m5 (List.mem_of_getElem? (i := 205) rfl) rfl
theorem wm_352 : (.fieldLink RX12 51 "EachMayMissOneModel" "acts" "[I" : Cond) ∈ en_wl := en_m5 (List.mem_of_getElem? (i := 210) rfl) rfl
theorem wm_353 : (.fieldLink RX12 54 "EachMayMissOneModel" "orders" "[I" : Cond) ∈ en_wl := en_m5 (List.mem_of_getElem? (i := 211) rfl) rfl
theorem wm_354 : (.fieldLink RX12 57 "EachMayMissOneModel" "then" "[I" : Cond) ∈ en_wl := en_m5 (List.mem_of_getElem? (i := 212) rfl) rfl
theorem wm_355 : (.fieldLink RX12 60 "EachMayMissOneModel" "wanted" "[I" : Cond) ∈ en_wl := en_m5 (List.mem_of_getElem? (i := 213) rfl) rfl
theorem wm_356 : (.fieldLink RX12 63 "EachMayMissOneModel" "with" "[I" : Cond) ∈ en_wl := en_m5 (List.mem_of_getElem? (i := 215) rfl) rfl
theorem wm_357 : (.fieldLink RX12 66 "EachMayMissOneModel" "bestWith" "[I" : Cond) ∈ en_wl := en_m5 (List.mem_of_getElem? (i := 216) rfl) rfl
theorem wm_358 : (.fieldLink RX12 69 "EachMayMissOneModel" "slept" "[I" : Cond) ∈ en_wl := en_m5 (List.mem_of_getElem? (i := 218) rfl) rfl
theorem wm_359 : (.fieldLink RX12 72 "EachMayMissOneModel" "reached" "[I" : Cond) ∈ en_wl := en_m5 (List.mem_of_getElem? (i := 219) rfl) rfl
theorem wm_360 : (.fieldLink RX12 75 "EachMayMissOneModel" "good" "[I" : Cond) ∈ en_wl := en_m5 (List.mem_of_getElem? (i := 220) rfl) rfl
theorem wm_361 : (.fieldLink RX12 78 "EachMayMissOneModel" "says" "[I" : Cond) ∈ en_wl := en_m5 (List.mem_of_getElem? (i := 221) rfl) rfl
theorem wm_362 : (.fieldLink RX12 81 "EachMayMissOneModel" "beers" "[I" : Cond) ∈ en_wl := en_m5 (List.mem_of_getElem? (i := 222) rfl) rfl
theorem wm_363 : (.fieldLink RX12 84 "EachMayMissOneModel" "kept" "[I" : Cond) ∈ en_wl := en_m5 (List.mem_of_getElem? (i := 223) rfl) rfl
theorem wm_364 : (.fieldLink RX12 87 "EachMayMissOneModel" "isKept" "[Z" : Cond) ∈ en_wl := en_m5 (List.mem_of_getElem? (i := 224) rfl) rfl
theorem wm_365 : (.code yX12_thrown cX12_thrown 1 (some .int) : Cond) ∈ en_wl := en_m6 (List.mem_of_getElem? (i := 77) rfl) rfl
theorem wm_366 : (.instanceMethod yX12_thrown : Cond) ∈ en_wl := en_m6 (List.mem_of_getElem? (i := 75) rfl) rfl
theorem wm_367 : (.selects RX12 yX12_thrown yX12_thrown : Cond) ∈ en_wl := en_m6 (List.mem_of_getElem? (i := 76) rfl) rfl
theorem wm_368 : (.fieldLink RX12 91 "EachMayMissOneModel" "thrown" "I" : Cond) ∈ en_wl := en_m5 (List.mem_of_getElem? (i := 192) rfl) rfl
theorem wm_369 : (.code yX12_in cX12_in 3 (some .boolean) : Cond) ∈ en_wl := en_m6 (List.mem_of_getElem? (i := 88) rfl) rfl
theorem wm_370 : (.static yX12_in : Cond) ∈ en_wl := en_m6 (List.mem_of_getElem? (i := 87) rfl) rfl
theorem wm_371 : (.code yX12_has cX12_has 2 (some .boolean) : Cond) ∈ en_wl := en_m6 (List.mem_of_getElem? (i := 219) rfl) rfl
theorem wm_372 : (.static yX12_has : Cond) ∈ en_wl := en_m6 (List.mem_of_getElem? (i := 218) rfl) rfl
theorem wm_373 : (.code yX12_lost cX12_lost 1 (some .int) : Cond) ∈ en_wl := en_m6 (List.mem_of_getElem? (i := 164) rfl) rfl
theorem wm_374 : (.instanceMethod yX12_lost : Cond) ∈ en_wl := en_m6 (List.mem_of_getElem? (i := 163) rfl) rfl
theorem wm_375 : (.selects RX12 yX12_lost yX12_lost : Cond) ∈ en_wl := en_ms (q := (yX12_lost, 44)) (List.mem_of_getElem? (i := 59) rfl) rfl
theorem wm_376 : (.code yX12_tell cX12_tell 2 (none) : Cond) ∈ en_wl := en_m6 (List.mem_of_getElem? (i := 236) rfl) rfl
theorem wm_377 : (.instanceMethod yX12_tell : Cond) ∈ en_wl := en_m6 (List.mem_of_getElem? (i := 235) rfl) rfl
theorem wm_378 : (.selects RX12 yX12_tell yX12_tell : Cond) ∈ en_wl := en_ms (q := (yX12_tell, 44)) (List.mem_of_getElem? (i := 71) rfl) rfl
theorem wm_379 : (.fieldLink RX12 94 "EachMayMissOneModel" "rowMany" "I" : Cond) ∈ en_wl := en_m5 (List.mem_of_getElem? (i := 191) rfl) rfl
theorem wm_380 : (.code yX12_isOne cX12_isOne 2 (some .boolean) : Cond) ∈ en_wl := en_m6 (List.mem_of_getElem? (i := 160) rfl) rfl
theorem wm_381 : (.instanceMethod yX12_isOne : Cond) ∈ en_wl := en_m6 (List.mem_of_getElem? (i := 159) rfl) rfl
theorem wm_382 : (.selects RX12 yX12_isOne yX12_isOne : Cond) ∈ en_wl := en_ms (q := (yX12_isOne, 44)) (List.mem_of_getElem? (i := 58) rfl) rfl
theorem wm_383 : (.fieldLink RX12 97 "EachMayMissOneModel" "bells" "I" : Cond) ∈ en_wl := en_m5 (List.mem_of_getElem? (i := 182) rfl) rfl
theorem wm_384 : (.methodLink RX12 100 yX12_in : Cond) ∈ en_wl := en_m6 (List.mem_of_getElem? (i := 86) rfl) rfl
theorem wm_385 : (.code yX12_areTwo cX12_areTwo 3 (some .boolean) : Cond) ∈ en_wl := en_m7 (List.mem_of_getElem? (i := 67) rfl) rfl
theorem wm_386 : (.instanceMethod yX12_areTwo : Cond) ∈ en_wl := en_m7 (List.mem_of_getElem? (i := 66) rfl) rfl
theorem wm_387 : (.selects RX12 yX12_areTwo yX12_areTwo : Cond) ∈ en_wl := en_ms (q := (yX12_areTwo, 44)) (List.mem_of_getElem? (i := 78) rfl) rfl
theorem wm_388 : (.methodLink RX12 104 yX12_isOne : Cond) ∈ en_wl := en_m6 (List.mem_of_getElem? (i := 157) rfl) rfl
theorem wm_389 : (.code yX12_everybody cX12_everybody 1 (some .int) : Cond) ∈ en_wl := en_m6 (List.mem_of_getElem? (i := 197) rfl) rfl
theorem wm_390 : (.instanceMethod yX12_everybody : Cond) ∈ en_wl := en_m6 (List.mem_of_getElem? (i := 196) rfl) rfl
theorem wm_391 : (.selects RX12 yX12_everybody yX12_everybody : Cond) ∈ en_wl := en_ms (q := (yX12_everybody, 44)) (List.mem_of_getElem? (i := 63) rfl) rfl
theorem wm_392 : (.code yX12_areThose cX12_areThose 2 (some .boolean) : Cond) ∈ en_wl := en_m6 (List.mem_of_getElem? (i := 193) rfl) rfl
theorem wm_393 : (.instanceMethod yX12_areThose : Cond) ∈ en_wl := en_m6 (List.mem_of_getElem? (i := 192) rfl) rfl
theorem wm_394 : (.selects RX12 yX12_areThose yX12_areThose : Cond) ∈ en_wl := en_ms (q := (yX12_areThose, 44)) (List.mem_of_getElem? (i := 62) rfl) rfl
theorem wm_395 : (.methodLink RX12 108 yX12_everybody : Cond) ∈ en_wl := en_m6 (List.mem_of_getElem? (i := 194) rfl) rfl
theorem wm_396 : (.code yX12_sign cX12_sign 3 (some .int) : Cond) ∈ en_wl := en_m6 (List.mem_of_getElem? (i := 81) rfl) rfl
theorem wm_397 : (.instanceMethod yX12_sign : Cond) ∈ en_wl := en_m6 (List.mem_of_getElem? (i := 79) rfl) rfl
theorem wm_398 : (.selects RX12 yX12_sign yX12_sign : Cond) ∈ en_wl := en_m6 (List.mem_of_getElem? (i := 80) rfl) rfl
theorem wm_399 : (.fieldLink RX12 112 "EachMayMissOneModel" "typed" "I" : Cond) ∈ en_wl := en_m5 (List.mem_of_getElem? (i := 189) rfl) rfl
theorem wm_400 : (.code yX12_end cX12_end 2 (some .boolean) : Cond) ∈ en_wl := en_m6 (List.mem_of_getElem? (i := 85) rfl) rfl
theorem wm_401 : (.instanceMethod yX12_end : Cond) ∈ en_wl := en_m6 (List.mem_of_getElem? (i := 83) rfl) rfl
theorem wm_402 : (.selects RX12 yX12_end yX12_end : Cond) ∈ en_wl := en_m6 (List.mem_of_getElem? (i := 84) rfl) rfl
theorem wm_403 : (.code yX12_begin cX12_begin 4 (none) : Cond) ∈ en_wl := en_m6 (List.mem_of_getElem? (i := 100) rfl) rfl
theorem wm_404 : (.instanceMethod yX12_begin : Cond) ∈ en_wl := en_m6 (List.mem_of_getElem? (i := 99) rfl) rfl
theorem wm_405 : (.selects RX12 yX12_begin yX12_begin : Cond) ∈ en_wl := en_ms (q := (yX12_begin, 44)) (List.mem_of_getElem? (i := 46) rfl) rfl
theorem wm_406 : (.fieldLink RX12 115 "EachMayMissOneModel" "read" "[B" : Cond) ∈ en_wl := en_m5 (List.mem_of_getElem? (i := 193) rfl) rfl
theorem wm_407 : (.fieldLink RX12 118 "EachMayMissOneModel" "length" "I" : Cond) ∈ en_wl := en_m5 (List.mem_of_getElem? (i := 194) rfl) rfl
theorem wm_408 : (.fieldLink RX12 121 "EachMayMissOneModel" "top" "I" : Cond) ∈ en_wl := en_m5 (List.mem_of_getElem? (i := 195) rfl) rfl
theorem wm_409 : (.fieldLink RX12 124 "EachMayMissOneModel" "at" "I" : Cond) ∈ en_wl := en_m5 (List.mem_of_getElem? (i := 196) rfl) rfl
theorem wm_410 : (.fieldLink RX12 127 "EachMayMissOneModel" "wrong" "I" : Cond) ∈ en_wl := en_m5 (List.mem_of_getElem? (i := 197) rfl) rfl
theorem wm_411 : (.code yX12_here cX12_here 1 (some .int) : Cond) ∈ en_wl := en_m6 (List.mem_of_getElem? (i := 120) rfl) rfl
theorem wm_412 : (.instanceMethod yX12_here : Cond) ∈ en_wl := en_m6 (List.mem_of_getElem? (i := 119) rfl) rfl
theorem wm_413 : (.selects RX12 yX12_here yX12_here : Cond) ∈ en_wl := en_ms (q := (yX12_here, 44)) (List.mem_of_getElem? (i := 51) rfl) rfl
theorem wm_414 : (.code yX12_fine cX12_fine 1 (some .boolean) : Cond) ∈ en_wl := en_m6 (List.mem_of_getElem? (i := 104) rfl) rfl
theorem wm_415 : (.instanceMethod yX12_fine : Cond) ∈ en_wl := en_m6 (List.mem_of_getElem? (i := 103) rfl) rfl
theorem wm_416 : (.selects RX12 yX12_fine yX12_fine : Cond) ∈ en_wl := en_ms (q := (yX12_fine, 44)) (List.mem_of_getElem? (i := 47) rfl) rfl
theorem wm_417 : (.code yX12_fault cX12_fault 2 (none) : Cond) ∈ en_wl := en_m6 (List.mem_of_getElem? (i := 108) rfl) rfl
theorem wm_418 : (.instanceMethod yX12_fault : Cond) ∈ en_wl := en_m6 (List.mem_of_getElem? (i := 107) rfl) rfl
theorem wm_419 : (.selects RX12 yX12_fault yX12_fault : Cond) ∈ en_wl := en_ms (q := (yX12_fault, 44)) (List.mem_of_getElem? (i := 48) rfl) rfl
theorem wm_420 : (.methodLink RX12 130 yX12_fine : Cond) ∈ en_wl := en_m6 (List.mem_of_getElem? (i := 101) rfl) rfl
theorem wm_421 : (.code yX12_passes cX12_passes 2 (some .boolean) : Cond) ∈ en_wl := en_m6 (List.mem_of_getElem? (i := 116) rfl) rfl
theorem wm_422 : (.instanceMethod yX12_passes : Cond) ∈ en_wl := en_m6 (List.mem_of_getElem? (i := 115) rfl) rfl
theorem wm_423 : (.selects RX12 yX12_passes yX12_passes : Cond) ∈ en_wl := en_ms (q := (yX12_passes, 44)) (List.mem_of_getElem? (i := 50) rfl) rfl
theorem wm_424 : (.methodLink RX12 134 yX12_here : Cond) ∈ en_wl := en_m6 (List.mem_of_getElem? (i := 117) rfl) rfl
theorem wm_425 : (.code yX12_oneOf cX12_oneOf 3 (some .int) : Cond) ∈ en_wl := en_m6 (List.mem_of_getElem? (i := 124) rfl) rfl
theorem wm_426 : (.instanceMethod yX12_oneOf : Cond) ∈ en_wl := en_m6 (List.mem_of_getElem? (i := 123) rfl) rfl
theorem wm_427 : (.selects RX12 yX12_oneOf yX12_oneOf : Cond) ∈ en_wl := en_ms (q := (yX12_oneOf, 44)) (List.mem_of_getElem? (i := 52) rfl) rfl
theorem wm_428 : (.methodLink RX12 137 yX12_fault : Cond) ∈ en_wl := en_m6 (List.mem_of_getElem? (i := 105) rfl) rfl
theorem wm_429 : (.code yX12_number cX12_number 4 (some .int) : Cond) ∈ en_wl := en_m6 (List.mem_of_getElem? (i := 149) rfl) rfl
theorem wm_430 : (.instanceMethod yX12_number : Cond) ∈ en_wl := en_m6 (List.mem_of_getElem? (i := 148) rfl) rfl
theorem wm_431 : (.selects RX12 yX12_number yX12_number : Cond) ∈ en_wl := en_ms (q := (yX12_number, 44)) (List.mem_of_getElem? (i := 57) rfl) rfl
theorem wm_432 : (.methodLink RX12 141 yX12_oneOf : Cond) ∈ en_wl := en_m6 (List.mem_of_getElem? (i := 121) rfl) rfl
theorem wm_433 : (.code yX12_tower cX12_tower 3 (some .int) : Cond) ∈ en_wl := en_m6 (List.mem_of_getElem? (i := 92) rfl) rfl
theorem wm_434 : (.instanceMethod yX12_tower : Cond) ∈ en_wl := en_m6 (List.mem_of_getElem? (i := 90) rfl) rfl
theorem wm_435 : (.selects RX12 yX12_tower yX12_tower : Cond) ∈ en_wl := en_m6 (List.mem_of_getElem? (i := 91) rfl) rfl
theorem wm_436 : (.fieldLink RX12 145 "EachMayMissOneModel" "undoMany" "I" : Cond) ∈ en_wl := en_m5 (List.mem_of_getElem? (i := 204) rfl) rfl
theorem wm_437 : (.code yX12_readChange cX12_readChange 3 (some .int) : Cond) ∈ en_wl := en_m6 (List.mem_of_getElem? (i := 112) rfl) rfl
theorem wm_438 : (.instanceMethod yX12_readChange : Cond) ∈ en_wl := en_m6 (List.mem_of_getElem? (i := 111) rfl) rfl
theorem wm_439 : (.selects RX12 yX12_readChange yX12_readChange : Cond) ∈ en_wl := en_ms (q := (yX12_readChange, 44)) (List.mem_of_getElem? (i := 49) rfl) rfl
theorem wm_440 : (.methodLink RX12 148 yX12_passes : Cond) ∈ en_wl := en_m6 (List.mem_of_getElem? (i := 113) rfl) rfl
theorem wm_441 : (.code yX12_method cX12_method 4 (some .int) : Cond) ∈ en_wl := en_m6 (List.mem_of_getElem? (i := 96) rfl) rfl
theorem wm_442 : (.instanceMethod yX12_method : Cond) ∈ en_wl := en_m6 (List.mem_of_getElem? (i := 94) rfl) rfl
theorem wm_443 : (.selects RX12 yX12_method yX12_method : Cond) ∈ en_wl := en_m6 (List.mem_of_getElem? (i := 95) rfl) rfl
theorem wm_444 : (.methodLink RX12 152 yX12_begin : Cond) ∈ en_wl := en_m6 (List.mem_of_getElem? (i := 97) rfl) rfl
theorem wm_445 : (.methodLink RX12 156 yX12_readChange : Cond) ∈ en_wl := en_m6 (List.mem_of_getElem? (i := 109) rfl) rfl
theorem wm_446 : (.methodLink RX12 159 yJ9_max_7cf53 : Cond) ∈ en_wl := en_m6 (List.mem_of_getElem? (i := 125) rfl) rfl
theorem wm_447 : (.code yX12_held cX12_held 3 (some .int) : Cond) ∈ en_wl := en_m6 (List.mem_of_getElem? (i := 133) rfl) rfl
theorem wm_448 : (.instanceMethod yX12_held : Cond) ∈ en_wl := en_m6 (List.mem_of_getElem? (i := 132) rfl) rfl
theorem wm_449 : (.selects RX12 yX12_held yX12_held : Cond) ∈ en_wl := en_ms (q := (yX12_held, 44)) (List.mem_of_getElem? (i := 53) rfl) rfl
theorem wm_450 : (.methodLink RX12 165 yX12_sum : Cond) ∈ en_wl := en_m6 (List.mem_of_getElem? (i := 134) rfl) rfl
theorem wm_451 : (.code yX12_sum cX12_sum 5 (some .int) : Cond) ∈ en_wl := en_m6 (List.mem_of_getElem? (i := 137) rfl) rfl
theorem wm_452 : (.instanceMethod yX12_sum : Cond) ∈ en_wl := en_m6 (List.mem_of_getElem? (i := 136) rfl) rfl
theorem wm_453 : (.selects RX12 yX12_sum yX12_sum : Cond) ∈ en_wl := en_ms (q := (yX12_sum, 44)) (List.mem_of_getElem? (i := 54) rfl) rfl
theorem wm_454 : (.methodLink RX12 169 yX12_product : Cond) ∈ en_wl := en_m6 (List.mem_of_getElem? (i := 138) rfl) rfl
theorem wm_455 : (.code yX12_product cX12_product 5 (some .int) : Cond) ∈ en_wl := en_m6 (List.mem_of_getElem? (i := 141) rfl) rfl
theorem wm_456 : (.instanceMethod yX12_product : Cond) ∈ en_wl := en_m6 (List.mem_of_getElem? (i := 140) rfl) rfl
theorem wm_457 : (.selects RX12 yX12_product yX12_product : Cond) ∈ en_wl := en_ms (q := (yX12_product, 44)) (List.mem_of_getElem? (i := 55) rfl) rfl
theorem wm_458 : (.methodLink RX12 172 yX12_thing : Cond) ∈ en_wl := en_m6 (List.mem_of_getElem? (i := 142) rfl) rfl
theorem wm_459 : (.code yX12_letterOf cX12_letterOf 1 (some .int) : Cond) ∈ en_wl := en_m6 (List.mem_of_getElem? (i := 152) rfl) rfl
theorem wm_460 : (.static yX12_letterOf : Cond) ∈ en_wl := en_m6 (List.mem_of_getElem? (i := 151) rfl) rfl
theorem wm_461 : (.code yX12_thing cX12_thing 4 (some .int) : Cond) ∈ en_wl := en_m6 (List.mem_of_getElem? (i := 145) rfl) rfl
theorem wm_462 : (.instanceMethod yX12_thing : Cond) ∈ en_wl := en_m6 (List.mem_of_getElem? (i := 144) rfl) rfl
theorem wm_463 : (.selects RX12 yX12_thing yX12_thing : Cond) ∈ en_wl := en_ms (q := (yX12_thing, 44)) (List.mem_of_getElem? (i := 56) rfl) rfl
theorem wm_464 : (.methodLink RX12 175 yX12_held : Cond) ∈ en_wl := en_m6 (List.mem_of_getElem? (i := 130) rfl) rfl
theorem wm_465 : (.methodLink RX12 178 yX12_number : Cond) ∈ en_wl := en_m6 (List.mem_of_getElem? (i := 146) rfl) rfl
theorem wm_466 : (.methodLink RX12 181 yX12_letterOf : Cond) ∈ en_wl := en_m6 (List.mem_of_getElem? (i := 150) rfl) rfl
theorem wm_467 : (.fieldLink RX12 184 "EachMayMissOneModel" "isAsked" "Z" : Cond) ∈ en_wl := en_m5 (List.mem_of_getElem? (i := 201) rfl) rfl
theorem wm_468 : (.code yX12_rule cX12_rule 3 (some .int) : Cond) ∈ en_wl := en_m6 (List.mem_of_getElem? (i := 129) rfl) rfl
theorem wm_469 : (.instanceMethod yX12_rule : Cond) ∈ en_wl := en_m6 (List.mem_of_getElem? (i := 127) rfl) rfl
theorem wm_470 : (.selects RX12 yX12_rule yX12_rule : Cond) ∈ en_wl := en_m6 (List.mem_of_getElem? (i := 128) rfl) rfl
theorem wm_471 : (.fieldLink RX12 188 "EachMayMissOneModel" "ruleSize" "I" : Cond) ∈ en_wl := en_m5 (List.mem_of_getElem? (i := 200) rfl) rfl
theorem wm_472 : (.code yX12_tires cX12_tires 5 (some .int) : Cond) ∈ en_wl := en_m6 (List.mem_of_getElem? (i := 172) rfl) rfl
theorem wm_473 : (.instanceMethod yX12_tires : Cond) ∈ en_wl := en_m6 (List.mem_of_getElem? (i := 171) rfl) rfl
theorem wm_474 : (.selects RX12 yX12_tires yX12_tires : Cond) ∈ en_wl := en_ms (q := (yX12_tires, 44)) (List.mem_of_getElem? (i := 61) rfl) rfl
theorem wm_475 : (.methodLink RX12 191 yX12_placeOf : Cond) ∈ en_wl := en_m6 (List.mem_of_getElem? (i := 165) rfl) rfl
theorem wm_476 : (.methodLink RX12 195 yJ9_min_7cf53 : Cond) ∈ en_wl := en_m6 (List.mem_of_getElem? (i := 173) rfl) rfl
theorem wm_477 : (.code yX12_placeOf cX12_placeOf 4 (some .int) : Cond) ∈ en_wl := en_m6 (List.mem_of_getElem? (i := 168) rfl) rfl
theorem wm_478 : (.instanceMethod yX12_placeOf : Cond) ∈ en_wl := en_m6 (List.mem_of_getElem? (i := 167) rfl) rfl
theorem wm_479 : (.selects RX12 yX12_placeOf yX12_placeOf : Cond) ∈ en_wl := en_ms (q := (yX12_placeOf, 44)) (List.mem_of_getElem? (i := 60) rfl) rfl
theorem wm_480 : (.code yX12_placesOf cX12_placesOf 5 (some .int) : Cond) ∈ en_wl := en_m6 (List.mem_of_getElem? (i := 216) rfl) rfl
theorem wm_481 : (.instanceMethod yX12_placesOf : Cond) ∈ en_wl := en_m6 (List.mem_of_getElem? (i := 215) rfl) rfl
theorem wm_482 : (.selects RX12 yX12_placesOf yX12_placesOf : Cond) ∈ en_wl := en_ms (q := (yX12_placesOf, 44)) (List.mem_of_getElem? (i := 67) rfl) rfl
theorem wm_483 : (.methodLink RX12 198 yX12_has : Cond) ∈ en_wl := en_m6 (List.mem_of_getElem? (i := 217) rfl) rfl
theorem wm_484 : (.code yX12_tenor cX12_tenor 3 (some .int) : Cond) ∈ en_wl := en_m6 (List.mem_of_getElem? (i := 228) rfl) rfl
theorem wm_485 : (.instanceMethod yX12_tenor : Cond) ∈ en_wl := en_m6 (List.mem_of_getElem? (i := 227) rfl) rfl
theorem wm_486 : (.selects RX12 yX12_tenor yX12_tenor : Cond) ∈ en_wl := en_ms (q := (yX12_tenor, 44)) (List.mem_of_getElem? (i := 69) rfl) rfl
theorem wm_487 : (.code yX12_ringer cX12_ringer 3 (some .int) : Cond) ∈ en_wl := en_m6 (List.mem_of_getElem? (i := 156) rfl) rfl
theorem wm_488 : (.instanceMethod yX12_ringer : Cond) ∈ en_wl := en_m6 (List.mem_of_getElem? (i := 154) rfl) rfl
theorem wm_489 : (.selects RX12 yX12_ringer yX12_ringer : Cond) ∈ en_wl := en_m6 (List.mem_of_getElem? (i := 155) rfl) rfl
theorem wm_490 : (.methodLink RX12 202 yX12_lost : Cond) ∈ en_wl := en_m6 (List.mem_of_getElem? (i := 161) rfl) rfl
theorem wm_491 : (.methodLink RX12 205 yX12_tires : Cond) ∈ en_wl := en_m6 (List.mem_of_getElem? (i := 169) rfl) rfl
theorem wm_492 : (.code yX12_bell cX12_bell 2 (some .int) : Cond) ∈ en_wl := en_m6 (List.mem_of_getElem? (i := 177) rfl) rfl
theorem wm_493 : (.instanceMethod yX12_bell : Cond) ∈ en_wl := en_m6 (List.mem_of_getElem? (i := 175) rfl) rfl
theorem wm_494 : (.selects RX12 yX12_bell yX12_bell : Cond) ∈ en_wl := en_m6 (List.mem_of_getElem? (i := 176) rfl) rfl
theorem wm_495 : (.code yX12_set cX12_set 4 (some .int) : Cond) ∈ en_wl := en_m6 (List.mem_of_getElem? (i := 181) rfl) rfl
theorem wm_496 : (.instanceMethod yX12_set : Cond) ∈ en_wl := en_m6 (List.mem_of_getElem? (i := 179) rfl) rfl
theorem wm_497 : (.selects RX12 yX12_set yX12_set : Cond) ∈ en_wl := en_m6 (List.mem_of_getElem? (i := 180) rfl) rfl
theorem wm_498 : (.code yX12_sheet cX12_sheet 9 (some .int) : Cond) ∈ en_wl := en_m6 (List.mem_of_getElem? (i := 185) rfl) rfl
theorem wm_499 : (.instanceMethod yX12_sheet : Cond) ∈ en_wl := en_m6 (List.mem_of_getElem? (i := 183) rfl) rfl
theorem wm_500 : (.selects RX12 yX12_sheet yX12_sheet : Cond) ∈ en_wl := en_m6 (List.mem_of_getElem? (i := 184) rfl) rfl
theorem wm_501 : (.code yX12_lay cX12_lay 4 (none) : Cond) ∈ en_wl := en_m6 (List.mem_of_getElem? (i := 204) rfl) rfl
theorem wm_502 : (.static yX12_lay : Cond) ∈ en_wl := en_m6 (List.mem_of_getElem? (i := 203) rfl) rfl
theorem wm_503 : (.code yX12_remember cX12_remember 3 (none) : Cond) ∈ en_wl := en_m6 (List.mem_of_getElem? (i := 201) rfl) rfl
theorem wm_504 : (.instanceMethod yX12_remember : Cond) ∈ en_wl := en_m6 (List.mem_of_getElem? (i := 200) rfl) rfl
theorem wm_505 : (.selects RX12 yX12_remember yX12_remember : Cond) ∈ en_wl := en_ms (q := (yX12_remember, 44)) (List.mem_of_getElem? (i := 64) rfl) rfl
theorem wm_506 : (.methodLink RX12 209 yX12_lay : Cond) ∈ en_wl := en_m6 (List.mem_of_getElem? (i := 202) rfl) rfl
theorem wm_507 : (.code yX12_brokenBy cX12_brokenBy 6 (some .int) : Cond) ∈ en_wl := en_m6 (List.mem_of_getElem? (i := 223) rfl) rfl
theorem wm_508 : (.instanceMethod yX12_brokenBy : Cond) ∈ en_wl := en_m6 (List.mem_of_getElem? (i := 222) rfl) rfl
theorem wm_509 : (.selects RX12 yX12_brokenBy yX12_brokenBy : Cond) ∈ en_wl := en_ms (q := (yX12_brokenBy, 44)) (List.mem_of_getElem? (i := 68) rfl) rfl
theorem wm_510 : (.code yJ6_bitCount_0f7a4 cJ6_bitCount_0f7a4 1 (some .int) : Cond) ∈ en_wl := en_m3 (List.mem_of_getElem? (i := 136) rfl) rfl
theorem wm_511 : (.static yJ6_bitCount_0f7a4 : Cond) ∈ en_wl := en_m3 (List.mem_of_getElem? (i := 135) rfl) rfl
theorem wm_512 : (.initialized RJ6 : Cond) ∈ en_wl := en_m1 (List.mem_of_getElem? (i := 26) rfl) rfl
theorem wm_513 : (.methodLink RX12 213 yJ6_bitCount_0f7a4 : Cond) ∈ en_wl := en_m6 (List.mem_of_getElem? (i := 224) rfl) rfl
theorem wm_514 : (.methodLink RX12 218 yX12_tenor : Cond) ∈ en_wl := en_m6 (List.mem_of_getElem? (i := 225) rfl) rfl
theorem wm_515 : (.code yX12_broken cX12_broken 3 (some .int) : Cond) ∈ en_wl := en_m6 (List.mem_of_getElem? (i := 212) rfl) rfl
theorem wm_516 : (.instanceMethod yX12_broken : Cond) ∈ en_wl := en_m6 (List.mem_of_getElem? (i := 211) rfl) rfl
theorem wm_517 : (.selects RX12 yX12_broken yX12_broken : Cond) ∈ en_wl := en_ms (q := (yX12_broken, 44)) (List.mem_of_getElem? (i := 66) rfl) rfl
theorem wm_518 : (.methodLink RX12 221 yX12_placesOf : Cond) ∈ en_wl := en_m6 (List.mem_of_getElem? (i := 213) rfl) rfl
theorem wm_519 : (.methodLink RX12 224 yX12_brokenBy : Cond) ∈ en_wl := en_m6 (List.mem_of_getElem? (i := 220) rfl) rfl
theorem wm_520 : (.code yX12_changeOrder cX12_changeOrder 5 (none) : Cond) ∈ en_wl := en_m6 (List.mem_of_getElem? (i := 232) rfl) rfl
theorem wm_521 : (.instanceMethod yX12_changeOrder : Cond) ∈ en_wl := en_m6 (List.mem_of_getElem? (i := 231) rfl) rfl
theorem wm_522 : (.selects RX12 yX12_changeOrder yX12_changeOrder : Cond) ∈ en_wl := en_ms (q := (yX12_changeOrder, 44)) (List.mem_of_getElem? (i := 70) rfl) rfl
theorem wm_523 : (.code yX12_goRound cX12_goRound 6 (none) : Cond) ∈ en_wl := en_m6 (List.mem_of_getElem? (i := 208) rfl) rfl
theorem wm_524 : (.instanceMethod yX12_goRound : Cond) ∈ en_wl := en_m6 (List.mem_of_getElem? (i := 207) rfl) rfl
theorem wm_525 : (.selects RX12 yX12_goRound yX12_goRound : Cond) ∈ en_wl := en_ms (q := (yX12_goRound, 44)) (List.mem_of_getElem? (i := 65) rfl) rfl
theorem wm_526 : (.methodLink RX12 228 yX12_broken : Cond) ∈ en_wl := en_m6 (List.mem_of_getElem? (i := 209) rfl) rfl
theorem wm_527 : (.fieldLink RX12 231 "EachMayMissOneModel" "wrongLaw" "I" : Cond) ∈ en_wl := en_m5 (List.mem_of_getElem? (i := 206) rfl) rfl
theorem wm_528 : (.fieldLink RX12 234 "EachMayMissOneModel" "drifted" "I" : Cond) ∈ en_wl := en_m5 (List.mem_of_getElem? (i := 207) rfl) rfl
theorem wm_529 : (.methodLink RX12 237 yX12_changeOrder : Cond) ∈ en_wl := en_m6 (List.mem_of_getElem? (i := 229) rfl) rfl
theorem wm_530 : (.code yX12_round cX12_round 2 (some .int) : Cond) ∈ en_wl := en_m6 (List.mem_of_getElem? (i := 189) rfl) rfl
theorem wm_531 : (.instanceMethod yX12_round : Cond) ∈ en_wl := en_m6 (List.mem_of_getElem? (i := 187) rfl) rfl
theorem wm_532 : (.selects RX12 yX12_round yX12_round : Cond) ∈ en_wl := en_m6 (List.mem_of_getElem? (i := 188) rfl) rfl
theorem wm_533 : (.methodLink RX12 241 yX12_areThose : Cond) ∈ en_wl := en_m6 (List.mem_of_getElem? (i := 190) rfl) rfl
theorem wm_534 : (.methodLink RX12 244 yX12_remember : Cond) ∈ en_wl := en_m6 (List.mem_of_getElem? (i := 198) rfl) rfl
theorem wm_535 : (.methodLink RX12 247 yX12_goRound : Cond) ∈ en_wl := en_m6 (List.mem_of_getElem? (i := 205) rfl) rfl
theorem wm_536 : (.methodLink RX12 251 yX12_tell : Cond) ∈ en_wl := en_m6 (List.mem_of_getElem? (i := 233) rfl) rfl
theorem wm_537 : (.code yX12_goRounds cX12_goRounds 4 (none) : Cond) ∈ en_wl := en_m7 (List.mem_of_getElem? (i := 4) rfl) rfl
theorem wm_538 : (.instanceMethod yX12_goRounds : Cond) ∈ en_wl := en_m7 (List.mem_of_getElem? (i := 3) rfl) rfl
theorem wm_539 : (.selects RX12 yX12_goRounds yX12_goRounds : Cond) ∈ en_wl := en_ms (q := (yX12_goRounds, 44)) (List.mem_of_getElem? (i := 72) rfl) rfl
theorem wm_540 : (.fieldLink RX12 254 "EachMayMissOneModel" "driftMany" "I" : Cond) ∈ en_wl := en_m5 (List.mem_of_getElem? (i := 208) rfl) rfl
theorem wm_541 : (.fieldLink RX12 257 "EachMayMissOneModel" "driftAll" "I" : Cond) ∈ en_wl := en_m5 (List.mem_of_getElem? (i := 209) rfl) rfl
theorem wm_542 : (.code yX12_rounds cX12_rounds 2 (some .int) : Cond) ∈ en_wl := en_m7 (List.mem_of_getElem? (i := 0) rfl) rfl
theorem wm_543 : (.instanceMethod yX12_rounds : Cond) ∈ en_wl := en_m6 (List.mem_of_getElem? (i := 238) rfl) rfl
theorem wm_544 : (.selects RX12 yX12_rounds yX12_rounds : Cond) ∈ en_wl := en_m6 (List.mem_of_getElem? (i := 239) rfl) rfl
theorem wm_545 : (.methodLink RX12 260 yX12_goRounds : Cond) ∈ en_wl := en_m7 (List.mem_of_getElem? (i := 1) rfl) rfl
theorem wm_546 : (.code yX12_drink cX12_drink 2 (some .int) : Cond) ∈ en_wl := en_m7 (List.mem_of_getElem? (i := 11) rfl) rfl
theorem wm_547 : (.static yX12_drink : Cond) ∈ en_wl := en_m7 (List.mem_of_getElem? (i := 10) rfl) rfl
theorem wm_548 : (.code yX12_beer cX12_beer 2 (some .int) : Cond) ∈ en_wl := en_m7 (List.mem_of_getElem? (i := 8) rfl) rfl
theorem wm_549 : (.instanceMethod yX12_beer : Cond) ∈ en_wl := en_m7 (List.mem_of_getElem? (i := 6) rfl) rfl
theorem wm_550 : (.selects RX12 yX12_beer yX12_beer : Cond) ∈ en_wl := en_m7 (List.mem_of_getElem? (i := 7) rfl) rfl
theorem wm_551 : (.methodLink RX12 263 yX12_drink : Cond) ∈ en_wl := en_m7 (List.mem_of_getElem? (i := 9) rfl) rfl
theorem wm_552 : (.code yX12_night cX12_night 4 (some .int) : Cond) ∈ en_wl := en_m7 (List.mem_of_getElem? (i := 15) rfl) rfl
theorem wm_553 : (.instanceMethod yX12_night : Cond) ∈ en_wl := en_m7 (List.mem_of_getElem? (i := 13) rfl) rfl
theorem wm_554 : (.selects RX12 yX12_night yX12_night : Cond) ∈ en_wl := en_m7 (List.mem_of_getElem? (i := 14) rfl) rfl
theorem wm_555 : (.methodLink RX12 266 yX12_readAct : Cond) ∈ en_wl := en_m7 (List.mem_of_getElem? (i := 16) rfl) rfl
theorem wm_556 : (.methodLink RX12 269 yX12_act : Cond) ∈ en_wl := en_m7 (List.mem_of_getElem? (i := 20) rfl) rfl
theorem wm_557 : (.code yX12_readAct cX12_readAct 4 (none) : Cond) ∈ en_wl := en_m7 (List.mem_of_getElem? (i := 19) rfl) rfl
theorem wm_558 : (.instanceMethod yX12_readAct : Cond) ∈ en_wl := en_m7 (List.mem_of_getElem? (i := 18) rfl) rfl
theorem wm_559 : (.selects RX12 yX12_readAct yX12_readAct : Cond) ∈ en_wl := en_ms (q := (yX12_readAct, 44)) (List.mem_of_getElem? (i := 73) rfl) rfl
theorem wm_560 : (.code yX12_act cX12_act 3 (some .boolean) : Cond) ∈ en_wl := en_m7 (List.mem_of_getElem? (i := 23) rfl) rfl
theorem wm_561 : (.instanceMethod yX12_act : Cond) ∈ en_wl := en_m7 (List.mem_of_getElem? (i := 22) rfl) rfl
theorem wm_562 : (.selects RX12 yX12_act yX12_act : Cond) ∈ en_wl := en_ms (q := (yX12_act, 44)) (List.mem_of_getElem? (i := 74) rfl) rfl
theorem wm_563 : (.code yX12_undo cX12_undo 2 (some .int) : Cond) ∈ en_wl := en_m7 (List.mem_of_getElem? (i := 27) rfl) rfl
theorem wm_564 : (.instanceMethod yX12_undo : Cond) ∈ en_wl := en_m7 (List.mem_of_getElem? (i := 25) rfl) rfl
theorem wm_565 : (.selects RX12 yX12_undo yX12_undo : Cond) ∈ en_wl := en_m7 (List.mem_of_getElem? (i := 26) rfl) rfl
theorem wm_566 : (.code yX12_layOrders cX12_layOrders 4 (none) : Cond) ∈ en_wl := en_m7 (List.mem_of_getElem? (i := 35) rfl) rfl
theorem wm_567 : (.instanceMethod yX12_layOrders : Cond) ∈ en_wl := en_m7 (List.mem_of_getElem? (i := 34) rfl) rfl
theorem wm_568 : (.selects RX12 yX12_layOrders yX12_layOrders : Cond) ∈ en_wl := en_ms (q := (yX12_layOrders, 44)) (List.mem_of_getElem? (i := 75) rfl) rfl
theorem wm_569 : (.code yX12_areLike cX12_areLike 4 (some .boolean) : Cond) ∈ en_wl := en_m7 (List.mem_of_getElem? (i := 43) rfl) rfl
theorem wm_570 : (.instanceMethod yX12_areLike : Cond) ∈ en_wl := en_m7 (List.mem_of_getElem? (i := 42) rfl) rfl
theorem wm_571 : (.selects RX12 yX12_areLike yX12_areLike : Cond) ∈ en_wl := en_ms (q := (yX12_areLike, 44)) (List.mem_of_getElem? (i := 76) rfl) rfl
theorem wm_572 : (.code yX12_order cX12_order 3 (some .int) : Cond) ∈ en_wl := en_m7 (List.mem_of_getElem? (i := 31) rfl) rfl
theorem wm_573 : (.instanceMethod yX12_order : Cond) ∈ en_wl := en_m7 (List.mem_of_getElem? (i := 29) rfl) rfl
theorem wm_574 : (.selects RX12 yX12_order yX12_order : Cond) ∈ en_wl := en_m7 (List.mem_of_getElem? (i := 30) rfl) rfl
theorem wm_575 : (.methodLink RX12 272 yX12_layOrders : Cond) ∈ en_wl := en_m7 (List.mem_of_getElem? (i := 32) rfl) rfl
theorem wm_576 : (.code yX12_truth cX12_truth 3 (some .int) : Cond) ∈ en_wl := en_m7 (List.mem_of_getElem? (i := 39) rfl) rfl
theorem wm_577 : (.instanceMethod yX12_truth : Cond) ∈ en_wl := en_m7 (List.mem_of_getElem? (i := 37) rfl) rfl
theorem wm_578 : (.selects RX12 yX12_truth yX12_truth : Cond) ∈ en_wl := en_m7 (List.mem_of_getElem? (i := 38) rfl) rfl
theorem wm_579 : (.methodLink RX12 275 yX12_areLike : Cond) ∈ en_wl := en_m7 (List.mem_of_getElem? (i := 40) rfl) rfl
theorem wm_580 : (.code yX12_lead cX12_lead 2 (some .int) : Cond) ∈ en_wl := en_m7 (List.mem_of_getElem? (i := 47) rfl) rfl
theorem wm_581 : (.instanceMethod yX12_lead : Cond) ∈ en_wl := en_m7 (List.mem_of_getElem? (i := 45) rfl) rfl
theorem wm_582 : (.selects RX12 yX12_lead yX12_lead : Cond) ∈ en_wl := en_m7 (List.mem_of_getElem? (i := 46) rfl) rfl
theorem wm_583 : (.code yX12_leads cX12_leads 6 (some .int) : Cond) ∈ en_wl := en_m7 (List.mem_of_getElem? (i := 51) rfl) rfl
theorem wm_584 : (.instanceMethod yX12_leads : Cond) ∈ en_wl := en_m7 (List.mem_of_getElem? (i := 49) rfl) rfl
theorem wm_585 : (.selects RX12 yX12_leads yX12_leads : Cond) ∈ en_wl := en_m7 (List.mem_of_getElem? (i := 50) rfl) rfl
theorem wm_586 : (.code yX12_comes cX12_comes 4 (some .int) : Cond) ∈ en_wl := en_m7 (List.mem_of_getElem? (i := 55) rfl) rfl
theorem wm_587 : (.instanceMethod yX12_comes : Cond) ∈ en_wl := en_m7 (List.mem_of_getElem? (i := 53) rfl) rfl
theorem wm_588 : (.selects RX12 yX12_comes yX12_comes : Cond) ∈ en_wl := en_m7 (List.mem_of_getElem? (i := 54) rfl) rfl
theorem wm_589 : (.methodLink RX12 278 yX12_asWanted : Cond) ∈ en_wl := en_m7 (List.mem_of_getElem? (i := 56) rfl) rfl
theorem wm_590 : (.code yX12_asWanted cX12_asWanted 4 (some .int) : Cond) ∈ en_wl := en_m7 (List.mem_of_getElem? (i := 59) rfl) rfl
theorem wm_591 : (.instanceMethod yX12_asWanted : Cond) ∈ en_wl := en_m7 (List.mem_of_getElem? (i := 58) rfl) rfl
theorem wm_592 : (.selects RX12 yX12_asWanted yX12_asWanted : Cond) ∈ en_wl := en_ms (q := (yX12_asWanted, 44)) (List.mem_of_getElem? (i := 77) rfl) rfl
theorem wm_593 : (.code yX12_course cX12_course 10 (some .int) : Cond) ∈ en_wl := en_m7 (List.mem_of_getElem? (i := 63) rfl) rfl
theorem wm_594 : (.instanceMethod yX12_course : Cond) ∈ en_wl := en_m7 (List.mem_of_getElem? (i := 61) rfl) rfl
theorem wm_595 : (.selects RX12 yX12_course yX12_course : Cond) ∈ en_wl := en_m7 (List.mem_of_getElem? (i := 62) rfl) rfl
theorem wm_596 : (.methodLink RX12 281 yX12_areTwo : Cond) ∈ en_wl := en_m7 (List.mem_of_getElem? (i := 64) rfl) rfl
theorem wm_597 : (.code yX12_may cX12_may 2 (some .int) : Cond) ∈ en_wl := en_m7 (List.mem_of_getElem? (i := 71) rfl) rfl
theorem wm_598 : (.instanceMethod yX12_may : Cond) ∈ en_wl := en_m7 (List.mem_of_getElem? (i := 69) rfl) rfl
theorem wm_599 : (.selects RX12 yX12_may yX12_may : Cond) ∈ en_wl := en_m7 (List.mem_of_getElem? (i := 70) rfl) rfl
theorem wm_600 : (.code yX12_lawful cX12_lawful 8 (some .int) : Cond) ∈ en_wl := en_m7 (List.mem_of_getElem? (i := 75) rfl) rfl
theorem wm_601 : (.instanceMethod yX12_lawful : Cond) ∈ en_wl := en_m7 (List.mem_of_getElem? (i := 73) rfl) rfl
theorem wm_602 : (.selects RX12 yX12_lawful yX12_lawful : Cond) ∈ en_wl := en_m7 (List.mem_of_getElem? (i := 74) rfl) rfl
theorem wm_603 : (.code yX12_covers cX12_covers 6 (some .int) : Cond) ∈ en_wl := en_m7 (List.mem_of_getElem? (i := 79) rfl) rfl
theorem wm_604 : (.instanceMethod yX12_covers : Cond) ∈ en_wl := en_m7 (List.mem_of_getElem? (i := 77) rfl) rfl
theorem wm_605 : (.selects RX12 yX12_covers yX12_covers : Cond) ∈ en_wl := en_m7 (List.mem_of_getElem? (i := 78) rfl) rfl
theorem wm_606 : (.code yX12_rivalsOf cX12_rivalsOf 5 (some .int) : Cond) ∈ en_wl := en_m7 (List.mem_of_getElem? (i := 87) rfl) rfl
theorem wm_607 : (.instanceMethod yX12_rivalsOf : Cond) ∈ en_wl := en_m7 (List.mem_of_getElem? (i := 86) rfl) rfl
theorem wm_608 : (.selects RX12 yX12_rivalsOf yX12_rivalsOf : Cond) ∈ en_wl := en_ms (q := (yX12_rivalsOf, 44)) (List.mem_of_getElem? (i := 79) rfl) rfl
theorem wm_609 : (.fieldLink RX12 284 "EachMayMissOneModel" "rivalLaw" "I" : Cond) ∈ en_wl := en_m5 (List.mem_of_getElem? (i := 214) rfl) rfl
theorem wm_610 : (.code yX12_rivals cX12_rivals 5 (some .int) : Cond) ∈ en_wl := en_m7 (List.mem_of_getElem? (i := 83) rfl) rfl
theorem wm_611 : (.instanceMethod yX12_rivals : Cond) ∈ en_wl := en_m7 (List.mem_of_getElem? (i := 81) rfl) rfl
theorem wm_612 : (.selects RX12 yX12_rivals yX12_rivals : Cond) ∈ en_wl := en_m7 (List.mem_of_getElem? (i := 82) rfl) rfl
theorem wm_613 : (.methodLink RX12 287 yX12_rivalsOf : Cond) ∈ en_wl := en_m7 (List.mem_of_getElem? (i := 84) rfl) rfl
theorem wm_614 : (.code yX12_goMatches cX12_goMatches 7 (none) : Cond) ∈ en_wl := en_m7 (List.mem_of_getElem? (i := 95) rfl) rfl
theorem wm_615 : (.instanceMethod yX12_goMatches : Cond) ∈ en_wl := en_m7 (List.mem_of_getElem? (i := 94) rfl) rfl
theorem wm_616 : (.selects RX12 yX12_goMatches yX12_goMatches : Cond) ∈ en_wl := en_ms (q := (yX12_goMatches, 44)) (List.mem_of_getElem? (i := 80) rfl) rfl
theorem wm_617 : (.fieldLink RX12 291 "EachMayMissOneModel" "mostRounds" "I" : Cond) ∈ en_wl := en_m5 (List.mem_of_getElem? (i := 217) rfl) rfl
theorem wm_618 : (.methodLink RX12 294 yX12_goMatches : Cond) ∈ en_wl := en_m7 (List.mem_of_getElem? (i := 92) rfl) rfl
theorem wm_619 : (.code yX12_matches cX12_matches 4 (some .int) : Cond) ∈ en_wl := en_m7 (List.mem_of_getElem? (i := 91) rfl) rfl
theorem wm_620 : (.instanceMethod yX12_matches : Cond) ∈ en_wl := en_m7 (List.mem_of_getElem? (i := 89) rfl) rfl
theorem wm_621 : (.selects RX12 yX12_matches yX12_matches : Cond) ∈ en_wl := en_m7 (List.mem_of_getElem? (i := 90) rfl) rfl
theorem wm_622 : (.code yX12_placesIn cX12_placesIn 5 (some .int) : Cond) ∈ en_wl := en_m7 (List.mem_of_getElem? (i := 107) rfl) rfl
theorem wm_623 : (.instanceMethod yX12_placesIn : Cond) ∈ en_wl := en_m7 (List.mem_of_getElem? (i := 106) rfl) rfl
theorem wm_624 : (.selects RX12 yX12_placesIn yX12_placesIn : Cond) ∈ en_wl := en_ms (q := (yX12_placesIn, 44)) (List.mem_of_getElem? (i := 82) rfl) rfl
theorem wm_625 : (.code yX12_isLawful cX12_isLawful 6 (some .boolean) : Cond) ∈ en_wl := en_m7 (List.mem_of_getElem? (i := 103) rfl) rfl
theorem wm_626 : (.instanceMethod yX12_isLawful : Cond) ∈ en_wl := en_m7 (List.mem_of_getElem? (i := 102) rfl) rfl
theorem wm_627 : (.selects RX12 yX12_isLawful yX12_isLawful : Cond) ∈ en_wl := en_ms (q := (yX12_isLawful, 44)) (List.mem_of_getElem? (i := 81) rfl) rfl
theorem wm_628 : (.methodLink RX12 298 yX12_placesIn : Cond) ∈ en_wl := en_m7 (List.mem_of_getElem? (i := 104) rfl) rfl
theorem wm_629 : (.code yX12_sleeps cX12_sleeps 6 (some .int) : Cond) ∈ en_wl := en_m7 (List.mem_of_getElem? (i := 99) rfl) rfl
theorem wm_630 : (.instanceMethod yX12_sleeps : Cond) ∈ en_wl := en_m7 (List.mem_of_getElem? (i := 97) rfl) rfl
theorem wm_631 : (.selects RX12 yX12_sleeps yX12_sleeps : Cond) ∈ en_wl := en_m7 (List.mem_of_getElem? (i := 98) rfl) rfl
theorem wm_632 : (.methodLink RX12 301 yX12_isLawful : Cond) ∈ en_wl := en_m7 (List.mem_of_getElem? (i := 100) rfl) rfl
theorem wm_633 : (.code yX12_withSet cX12_withSet 7 (some .int) : Cond) ∈ en_wl := en_m7 (List.mem_of_getElem? (i := 123) rfl) rfl
theorem wm_634 : (.instanceMethod yX12_withSet : Cond) ∈ en_wl := en_m7 (List.mem_of_getElem? (i := 122) rfl) rfl
theorem wm_635 : (.selects RX12 yX12_withSet yX12_withSet : Cond) ∈ en_wl := en_ms (q := (yX12_withSet, 44)) (List.mem_of_getElem? (i := 85) rfl) rfl
theorem wm_636 : (.code yX12_wholeOf cX12_wholeOf 4 (some .int) : Cond) ∈ en_wl := en_m7 (List.mem_of_getElem? (i := 115) rfl) rfl
theorem wm_637 : (.instanceMethod yX12_wholeOf : Cond) ∈ en_wl := en_m7 (List.mem_of_getElem? (i := 114) rfl) rfl
theorem wm_638 : (.selects RX12 yX12_wholeOf yX12_wholeOf : Cond) ∈ en_wl := en_ms (q := (yX12_wholeOf, 44)) (List.mem_of_getElem? (i := 83) rfl) rfl
theorem wm_639 : (.code yX12_naps cX12_naps 9 (some .int) : Cond) ∈ en_wl := en_m7 (List.mem_of_getElem? (i := 111) rfl) rfl
theorem wm_640 : (.instanceMethod yX12_naps : Cond) ∈ en_wl := en_m7 (List.mem_of_getElem? (i := 109) rfl) rfl
theorem wm_641 : (.selects RX12 yX12_naps yX12_naps : Cond) ∈ en_wl := en_m7 (List.mem_of_getElem? (i := 110) rfl) rfl
theorem wm_642 : (.methodLink RX12 304 yX12_wholeOf : Cond) ∈ en_wl := en_m7 (List.mem_of_getElem? (i := 112) rfl) rfl
theorem wm_643 : (.methodLink RX12 307 yX12_spreadNaps : Cond) ∈ en_wl := en_m7 (List.mem_of_getElem? (i := 116) rfl) rfl
theorem wm_644 : (.methodLink RX12 311 yX12_gatherNaps : Cond) ∈ en_wl := en_m7 (List.mem_of_getElem? (i := 124) rfl) rfl
theorem wm_645 : (.methodLink RX12 314 yX12_withSet : Cond) ∈ en_wl := en_m7 (List.mem_of_getElem? (i := 120) rfl) rfl
theorem wm_646 : (.code yX12_spreadNaps cX12_spreadNaps 7 (none) : Cond) ∈ en_wl := en_m7 (List.mem_of_getElem? (i := 119) rfl) rfl
theorem wm_647 : (.instanceMethod yX12_spreadNaps : Cond) ∈ en_wl := en_m7 (List.mem_of_getElem? (i := 118) rfl) rfl
theorem wm_648 : (.selects RX12 yX12_spreadNaps yX12_spreadNaps : Cond) ∈ en_wl := en_ms (q := (yX12_spreadNaps, 44)) (List.mem_of_getElem? (i := 84) rfl) rfl
theorem wm_649 : (.code yX12_gatherNaps cX12_gatherNaps 8 (none) : Cond) ∈ en_wl := en_m7 (List.mem_of_getElem? (i := 127) rfl) rfl
theorem wm_650 : (.instanceMethod yX12_gatherNaps : Cond) ∈ en_wl := en_m7 (List.mem_of_getElem? (i := 126) rfl) rfl
theorem wm_651 : (.selects RX12 yX12_gatherNaps yX12_gatherNaps : Cond) ∈ en_wl := en_ms (q := (yX12_gatherNaps, 44)) (List.mem_of_getElem? (i := 86) rfl) rfl
theorem wm_652 : (.code yX12_bound cX12_bound 2 (some .int) : Cond) ∈ en_wl := en_m7 (List.mem_of_getElem? (i := 131) rfl) rfl
theorem wm_653 : (.instanceMethod yX12_bound : Cond) ∈ en_wl := en_m7 (List.mem_of_getElem? (i := 129) rfl) rfl
theorem wm_654 : (.selects RX12 yX12_bound yX12_bound : Cond) ∈ en_wl := en_m7 (List.mem_of_getElem? (i := 130) rfl) rfl
theorem wm_655 : (.code yX12_missed cX12_missed 2 (some .int) : Cond) ∈ en_wl := en_m7 (List.mem_of_getElem? (i := 135) rfl) rfl
theorem wm_656 : (.instanceMethod yX12_missed : Cond) ∈ en_wl := en_m7 (List.mem_of_getElem? (i := 133) rfl) rfl
theorem wm_657 : (.selects RX12 yX12_missed yX12_missed : Cond) ∈ en_wl := en_m7 (List.mem_of_getElem? (i := 134) rfl) rfl
theorem wm_658 : (.code yX12_heard cX12_heard 5 (some .int) : Cond) ∈ en_wl := en_m7 (List.mem_of_getElem? (i := 139) rfl) rfl
theorem wm_659 : (.instanceMethod yX12_heard : Cond) ∈ en_wl := en_m7 (List.mem_of_getElem? (i := 137) rfl) rfl
theorem wm_660 : (.selects RX12 yX12_heard yX12_heard : Cond) ∈ en_wl := en_m7 (List.mem_of_getElem? (i := 138) rfl) rfl
theorem wm_661 : (.code yX12_reads cX12_reads 6 (some .int) : Cond) ∈ en_wl := en_m7 (List.mem_of_getElem? (i := 143) rfl) rfl
theorem wm_662 : (.instanceMethod yX12_reads : Cond) ∈ en_wl := en_m7 (List.mem_of_getElem? (i := 141) rfl) rfl
theorem wm_663 : (.selects RX12 yX12_reads yX12_reads : Cond) ∈ en_wl := en_m7 (List.mem_of_getElem? (i := 142) rfl) rfl
theorem wm_664 : (.code yX12_said cX12_said 6 (some .int) : Cond) ∈ en_wl := en_m7 (List.mem_of_getElem? (i := 147) rfl) rfl
theorem wm_665 : (.instanceMethod yX12_said : Cond) ∈ en_wl := en_m7 (List.mem_of_getElem? (i := 145) rfl) rfl
theorem wm_666 : (.selects RX12 yX12_said yX12_said : Cond) ∈ en_wl := en_m7 (List.mem_of_getElem? (i := 146) rfl) rfl
theorem wm_667 : (.code yJ6_numberOfTrailingZeros_0f7a4 cJ6_numberOfTrailingZeros_0f7a4 2 (some .int) : Cond) ∈ en_wl := en_m7 (List.mem_of_getElem? (i := 150) rfl) rfl
theorem wm_668 : (.static yJ6_numberOfTrailingZeros_0f7a4 : Cond) ∈ en_wl := en_m7 (List.mem_of_getElem? (i := 149) rfl) rfl
theorem wm_669 : (.methodLink RX12 317 yJ6_numberOfTrailingZeros_0f7a4 : Cond) ∈ en_wl := en_m7 (List.mem_of_getElem? (i := 148) rfl) rfl
theorem wm_670 : (.code yX12_says cX12_says 6 (some .int) : Cond) ∈ en_wl := en_m7 (List.mem_of_getElem? (i := 155) rfl) rfl
theorem wm_671 : (.instanceMethod yX12_says : Cond) ∈ en_wl := en_m7 (List.mem_of_getElem? (i := 153) rfl) rfl
theorem wm_672 : (.selects RX12 yX12_says yX12_says : Cond) ∈ en_wl := en_m7 (List.mem_of_getElem? (i := 154) rfl) rfl
theorem wm_673 : (.code yX12_mostTired cX12_mostTired 4 (some .int) : Cond) ∈ en_wl := en_m7 (List.mem_of_getElem? (i := 167) rfl) rfl
theorem wm_674 : (.instanceMethod yX12_mostTired : Cond) ∈ en_wl := en_m7 (List.mem_of_getElem? (i := 166) rfl) rfl
theorem wm_675 : (.selects RX12 yX12_mostTired yX12_mostTired : Cond) ∈ en_wl := en_ms (q := (yX12_mostTired, 44)) (List.mem_of_getElem? (i := 88) rfl) rfl
theorem wm_676 : (.code yX12_failsBy cX12_failsBy 3 (some .int) : Cond) ∈ en_wl := en_m7 (List.mem_of_getElem? (i := 163) rfl) rfl
theorem wm_677 : (.instanceMethod yX12_failsBy : Cond) ∈ en_wl := en_m7 (List.mem_of_getElem? (i := 162) rfl) rfl
theorem wm_678 : (.selects RX12 yX12_failsBy yX12_failsBy : Cond) ∈ en_wl := en_ms (q := (yX12_failsBy, 44)) (List.mem_of_getElem? (i := 87) rfl) rfl
theorem wm_679 : (.methodLink RX12 320 yX12_mostTired : Cond) ∈ en_wl := en_m7 (List.mem_of_getElem? (i := 164) rfl) rfl
theorem wm_680 : (.code yX12_fails cX12_fails 1 (some .int) : Cond) ∈ en_wl := en_m7 (List.mem_of_getElem? (i := 159) rfl) rfl
theorem wm_681 : (.instanceMethod yX12_fails : Cond) ∈ en_wl := en_m7 (List.mem_of_getElem? (i := 157) rfl) rfl
theorem wm_682 : (.selects RX12 yX12_fails yX12_fails : Cond) ∈ en_wl := en_m7 (List.mem_of_getElem? (i := 158) rfl) rfl
theorem wm_683 : (.methodLink RX12 324 yX12_failsBy : Cond) ∈ en_wl := en_m7 (List.mem_of_getElem? (i := 160) rfl) rfl
theorem wm_684 : (.code yX12_lasts cX12_lasts 1 (some .int) : Cond) ∈ en_wl := en_m7 (List.mem_of_getElem? (i := 171) rfl) rfl
theorem wm_685 : (.instanceMethod yX12_lasts : Cond) ∈ en_wl := en_m7 (List.mem_of_getElem? (i := 169) rfl) rfl
theorem wm_686 : (.selects RX12 yX12_lasts yX12_lasts : Cond) ∈ en_wl := en_m7 (List.mem_of_getElem? (i := 170) rfl) rfl
theorem wm_687 : (.code yX12_serves cX12_serves 5 (some .boolean) : Cond) ∈ en_wl := en_m7 (List.mem_of_getElem? (i := 179) rfl) rfl
theorem wm_688 : (.instanceMethod yX12_serves : Cond) ∈ en_wl := en_m7 (List.mem_of_getElem? (i := 178) rfl) rfl
theorem wm_689 : (.selects RX12 yX12_serves yX12_serves : Cond) ∈ en_wl := en_ms (q := (yX12_serves, 44)) (List.mem_of_getElem? (i := 89) rfl) rfl
theorem wm_690 : (.code yX12_stout cX12_stout 5 (some .int) : Cond) ∈ en_wl := en_m7 (List.mem_of_getElem? (i := 175) rfl) rfl
theorem wm_691 : (.instanceMethod yX12_stout : Cond) ∈ en_wl := en_m7 (List.mem_of_getElem? (i := 173) rfl) rfl
theorem wm_692 : (.selects RX12 yX12_stout yX12_stout : Cond) ∈ en_wl := en_m7 (List.mem_of_getElem? (i := 174) rfl) rfl
theorem wm_693 : (.methodLink RX12 328 yX12_serves : Cond) ∈ en_wl := en_m7 (List.mem_of_getElem? (i := 176) rfl) rfl
theorem wm_694 : (.code yX12_weariest cX12_weariest 4 (some .int) : Cond) ∈ en_wl := en_m7 (List.mem_of_getElem? (i := 183) rfl) rfl
theorem wm_695 : (.instanceMethod yX12_weariest : Cond) ∈ en_wl := en_m7 (List.mem_of_getElem? (i := 181) rfl) rfl
theorem wm_696 : (.selects RX12 yX12_weariest yX12_weariest : Cond) ∈ en_wl := en_m7 (List.mem_of_getElem? (i := 182) rfl) rfl
theorem wm_697 : (.methodLink RX12 331 yX12_wearyOf : Cond) ∈ en_wl := en_m7 (List.mem_of_getElem? (i := 184) rfl) rfl
theorem wm_698 : (.code yX12_wearyOf cX12_wearyOf 2 (some .int) : Cond) ∈ en_wl := en_m7 (List.mem_of_getElem? (i := 187) rfl) rfl
theorem wm_699 : (.instanceMethod yX12_wearyOf : Cond) ∈ en_wl := en_m7 (List.mem_of_getElem? (i := 186) rfl) rfl
theorem wm_700 : (.selects RX12 yX12_wearyOf yX12_wearyOf : Cond) ∈ en_wl := en_ms (q := (yX12_wearyOf, 44)) (List.mem_of_getElem? (i := 90) rfl) rfl
theorem wm_701 : (.code yX12_coughs cX12_coughs 10 (some .int) : Cond) ∈ en_wl := en_m7 (List.mem_of_getElem? (i := 191) rfl) rfl
theorem wm_702 : (.instanceMethod yX12_coughs : Cond) ∈ en_wl := en_m7 (List.mem_of_getElem? (i := 189) rfl) rfl
theorem wm_703 : (.selects RX12 yX12_coughs yX12_coughs : Cond) ∈ en_wl := en_m7 (List.mem_of_getElem? (i := 190) rfl) rfl
theorem wm_704 : (.constant RX12 334 1103515245 : Cond) ∈ en_wl := en_m7 (List.mem_of_getElem? (i := 192) rfl) rfl
theorem wm_705 : (.code yX12_keep cX12_keep 2 (some .boolean) : Cond) ∈ en_wl := en_m7 (List.mem_of_getElem? (i := 196) rfl) rfl
theorem wm_706 : (.instanceMethod yX12_keep : Cond) ∈ en_wl := en_m7 (List.mem_of_getElem? (i := 194) rfl) rfl
theorem wm_707 : (.selects RX12 yX12_keep yX12_keep : Cond) ∈ en_wl := en_m7 (List.mem_of_getElem? (i := 195) rfl) rfl
theorem wm_708 : (.code yX12_again cX12_again 3 (some .boolean) : Cond) ∈ en_wl := en_m7 (List.mem_of_getElem? (i := 200) rfl) rfl
theorem wm_709 : (.instanceMethod yX12_again : Cond) ∈ en_wl := en_m7 (List.mem_of_getElem? (i := 198) rfl) rfl
theorem wm_710 : (.selects RX12 yX12_again yX12_again : Cond) ∈ en_wl := en_m7 (List.mem_of_getElem? (i := 199) rfl) rfl
theorem wm_711 : (.code yX12_sumOf cX12_sumOf 4 (some .int) : Cond) ∈ en_wl := en_m7 (List.mem_of_getElem? (i := 208) rfl) rfl
theorem wm_712 : (.instanceMethod yX12_sumOf : Cond) ∈ en_wl := en_m7 (List.mem_of_getElem? (i := 207) rfl) rfl
theorem wm_713 : (.selects RX12 yX12_sumOf yX12_sumOf : Cond) ∈ en_wl := en_ms (q := (yX12_sumOf, 44)) (List.mem_of_getElem? (i := 91) rfl) rfl
theorem wm_714 : (.code yX12_count cX12_count 2 (some .int) : Cond) ∈ en_wl := en_m7 (List.mem_of_getElem? (i := 204) rfl) rfl
theorem wm_715 : (.instanceMethod yX12_count : Cond) ∈ en_wl := en_m7 (List.mem_of_getElem? (i := 202) rfl) rfl
theorem wm_716 : (.selects RX12 yX12_count yX12_count : Cond) ∈ en_wl := en_m7 (List.mem_of_getElem? (i := 203) rfl) rfl
theorem wm_717 : (.methodLink RX12 335 yX12_sumOf : Cond) ∈ en_wl := en_m7 (List.mem_of_getElem? (i := 205) rfl) rfl
theorem wm_718 : (.code yX12_row cX12_row 2 (some .int) : Cond) ∈ en_wl := en_m7 (List.mem_of_getElem? (i := 212) rfl) rfl
theorem wm_719 : (.instanceMethod yX12_row : Cond) ∈ en_wl := en_m7 (List.mem_of_getElem? (i := 210) rfl) rfl
theorem wm_720 : (.selects RX12 yX12_row yX12_row : Cond) ∈ en_wl := en_m7 (List.mem_of_getElem? (i := 211) rfl) rfl
theorem wm_721 : (.code yX0_init cX0_init 1 (none) : Cond) ∈ en_wl := en_m1 (List.mem_of_getElem? (i := 78) rfl) rfl
theorem wm_722 : (.instanceMethod yX0_init : Cond) ∈ en_wl := en_m1 (List.mem_of_getElem? (i := 77) rfl) rfl
theorem wm_723 : (.initialized RX0 : Cond) ∈ en_wl := en_m1 (List.mem_of_getElem? (i := 5) rfl) rfl
theorem wm_724 : (.methodLink RX0 3 objectInit : Cond) ∈ en_wl := en_m1 (List.mem_of_getElem? (i := 79) rfl) rfl
theorem wm_725 : (.fieldLink RX0 11 "EachMayMissOne$Changes" "stay" "[I" : Cond) ∈ en_wl := en_m1 (List.mem_of_getElem? (i := 80) rfl) rfl
theorem wm_726 : (.fieldLink RX0 15 "EachMayMissOne$Changes" "draft" "[I" : Cond) ∈ en_wl := en_m1 (List.mem_of_getElem? (i := 81) rfl) rfl
theorem wm_727 : (.fieldLink RX0 18 "EachMayMissOne$Changes" "many" "I" : Cond) ∈ en_wl := en_m1 (List.mem_of_getElem? (i := 82) rfl) rfl
theorem wm_728 : (.code yX0_read cX0_read 7 (some .int) : Cond) ∈ en_wl := en_m2 (List.mem_of_getElem? (i := 191) rfl) rfl
theorem wm_729 : (.instanceMethod yX0_read : Cond) ∈ en_wl := en_m2 (List.mem_of_getElem? (i := 189) rfl) rfl
theorem wm_730 : (.selects RX0 yX0_read yX0_read : Cond) ∈ en_wl := en_m2 (List.mem_of_getElem? (i := 190) rfl) rfl
theorem wm_731 : (.fieldLink RX0 22 "EachMayMissOne$Text" "length" "I" : Cond) ∈ en_wl := en_m1 (List.mem_of_getElem? (i := 43) rfl) rfl
theorem wm_732 : (.methodLink RX0 27 yX0_useX : Cond) ∈ en_wl := en_m2 (List.mem_of_getElem? (i := 192) rfl) rfl
theorem wm_733 : (.methodLink RX0 30 yX0_readChange : Cond) ∈ en_wl := en_m2 (List.mem_of_getElem? (i := 193) rfl) rfl
theorem wm_734 : (.methodLinkNest RX0 34 yX11_cannotStand RX11 : Cond) ∈ lw_tbl := en_t2 (List.mem_of_getElem? (i := 198) rfl)
theorem wm_735 : (.methodLink RX0 38 yX8_at : Cond) ∈ en_wl := en_m2 (List.mem_of_getElem? (i := 197) rfl) rfl
theorem wm_736 : (.methodLink RX0 42 yX0_take : Cond) ∈ en_wl := en_m2 (List.mem_of_getElem? (i := 199) rfl) rfl
theorem wm_737 : (.code yX0_readChange cX0_readChange 8 (some .int) : Cond) ∈ en_wl := en_m2 (List.mem_of_getElem? (i := 196) rfl) rfl
theorem wm_738 : (.instanceMethod yX0_readChange : Cond) ∈ en_wl := en_m2 (List.mem_of_getElem? (i := 195) rfl) rfl
theorem wm_739 : (.selects RX0 yX0_readChange yX0_readChange : Cond) ∈ en_wl := en_ms (q := (yX0_readChange, 3)) (List.mem_of_getElem? (i := 0) rfl) rfl
theorem wm_740 : (.code yX0_take cX0_take 2 (some .int) : Cond) ∈ en_wl := en_m2 (List.mem_of_getElem? (i := 202) rfl) rfl
theorem wm_741 : (.instanceMethod yX0_take : Cond) ∈ en_wl := en_m2 (List.mem_of_getElem? (i := 201) rfl) rfl
theorem wm_742 : (.selects RX0 yX0_take yX0_take : Cond) ∈ en_wl := en_ms (q := (yX0_take, 3)) (List.mem_of_getElem? (i := 1) rfl) rfl
theorem wm_743 : (.methodLink RX0 45 arraycopyName : Cond) ∈ en_wl := en_m2 (List.mem_of_getElem? (i := 203) rfl) rfl
theorem wm_744 : (.code yX0_useX cX0_useX 1 (none) : Cond) ∈ en_wl := en_m2 (List.mem_of_getElem? (i := 164) rfl) rfl
theorem wm_745 : (.instanceMethod yX0_useX : Cond) ∈ en_wl := en_m2 (List.mem_of_getElem? (i := 162) rfl) rfl
theorem wm_746 : (.selects RX0 yX0_useX yX0_useX : Cond) ∈ en_wl := en_m2 (List.mem_of_getElem? (i := 163) rfl) rfl
theorem wm_747 : (.code yX0_changeAt cX0_changeAt 2 (some .int) : Cond) ∈ en_wl := en_m3 (List.mem_of_getElem? (i := 174) rfl) rfl
theorem wm_748 : (.instanceMethod yX0_changeAt : Cond) ∈ en_wl := en_m3 (List.mem_of_getElem? (i := 173) rfl) rfl
theorem wm_749 : (.selects RX0 yX0_changeAt yX0_changeAt : Cond) ∈ en_wl := en_ms (q := (yX0_changeAt, 3)) (List.mem_of_getElem? (i := 11) rfl) rfl
theorem wm_750 : (.code yJ9_floorMod_7cf53 cJ9_floorMod_7cf53 3 (some .int) : Cond) ∈ en_wl := en_m3 (List.mem_of_getElem? (i := 177) rfl) rfl
theorem wm_751 : (.static yJ9_floorMod_7cf53 : Cond) ∈ en_wl := en_m3 (List.mem_of_getElem? (i := 176) rfl) rfl
theorem wm_752 : (.methodLink RX0 51 yJ9_floorMod_7cf53 : Cond) ∈ en_wl := en_m3 (List.mem_of_getElem? (i := 175) rfl) rfl
theorem wm_753 : (.code yX0_sameChange cX0_sameChange 3 (some .boolean) : Cond) ∈ en_wl := en_m4 (List.mem_of_getElem? (i := 44) rfl) rfl
theorem wm_754 : (.instanceMethod yX0_sameChange : Cond) ∈ en_wl := en_m4 (List.mem_of_getElem? (i := 42) rfl) rfl
theorem wm_755 : (.selects RX0 yX0_sameChange yX0_sameChange : Cond) ∈ en_wl := en_m4 (List.mem_of_getElem? (i := 43) rfl) rfl
theorem wm_756 : (.methodLink RX0 56 yX0_changeAt : Cond) ∈ en_wl := en_m3 (List.mem_of_getElem? (i := 171) rfl) rfl
theorem wm_757 : (.code yX0_next cX0_next 9 (some .int) : Cond) ∈ en_wl := en_m3 (List.mem_of_getElem? (i := 170) rfl) rfl
theorem wm_758 : (.instanceMethod yX0_next : Cond) ∈ en_wl := en_m3 (List.mem_of_getElem? (i := 168) rfl) rfl
theorem wm_759 : (.selects RX0 yX0_next yX0_next : Cond) ∈ en_wl := en_m3 (List.mem_of_getElem? (i := 169) rfl) rfl
theorem wm_760 : (.methodLinkNest RX0 59 yX11_bellAt RX11 : Cond) ∈ lw_tbl := en_t3 (List.mem_of_getElem? (i := 178) rfl)
theorem wm_761 : (.methodLinkNest RX0 62 yX11_withBell RX11 : Cond) ∈ lw_tbl := en_t3 (List.mem_of_getElem? (i := 179) rfl)
theorem wm_762 : (.code yX1_init cX1_init 2 (none) : Cond) ∈ en_wl := en_m2 (List.mem_of_getElem? (i := 9) rfl) rfl
theorem wm_763 : (.instanceMethod yX1_init : Cond) ∈ en_wl := en_m2 (List.mem_of_getElem? (i := 8) rfl) rfl
theorem wm_764 : (.methodLink RX1 1 objectInit : Cond) ∈ en_wl := en_m2 (List.mem_of_getElem? (i := 10) rfl) rfl
theorem wm_765 : (.classLink RX1 9 "EachMayMissOne$State" : Cond) ∈ en_wl := en_m2 (List.mem_of_getElem? (i := 11) rfl) rfl
theorem wm_766 : (.fieldLink RX1 11 "EachMayMissOne$Kept" "states" "[LEachMayMissOne$State;" : Cond) ∈ en_wl := en_m2 (List.mem_of_getElem? (i := 13) rfl) rfl
theorem wm_767 : (.fieldLink RX1 15 "EachMayMissOne$Kept" "there" "[Z" : Cond) ∈ en_wl := en_m2 (List.mem_of_getElem? (i := 14) rfl) rfl
theorem wm_768 : (.methodLinkNest RX1 19 yX7_init RX11 : Cond) ∈ lw_tbl := en_t2 (List.mem_of_getElem? (i := 12) rfl)
theorem wm_769 : (.code yX1_put cX1_put 3 (some .boolean) : Cond) ∈ en_wl := en_m5 (List.mem_of_getElem? (i := 70) rfl) rfl
theorem wm_770 : (.instanceMethod yX1_put : Cond) ∈ en_wl := en_m5 (List.mem_of_getElem? (i := 68) rfl) rfl
theorem wm_771 : (.selects RX1 yX1_put yX1_put : Cond) ∈ en_wl := en_m5 (List.mem_of_getElem? (i := 69) rfl) rfl
theorem wm_772 : (.methodLink RX1 20 yX7_copy : Cond) ∈ en_wl := en_m5 (List.mem_of_getElem? (i := 71) rfl) rfl
theorem wm_773 : (.code yX1_restore cX1_restore 3 (some .boolean) : Cond) ∈ en_wl := en_m5 (List.mem_of_getElem? (i := 79) rfl) rfl
theorem wm_774 : (.instanceMethod yX1_restore : Cond) ∈ en_wl := en_m5 (List.mem_of_getElem? (i := 77) rfl) rfl
theorem wm_775 : (.selects RX1 yX1_restore yX1_restore : Cond) ∈ en_wl := en_m5 (List.mem_of_getElem? (i := 78) rfl) rfl
theorem wm_776 : (.code yX1_forget cX1_forget 1 (none) : Cond) ∈ en_wl := en_m2 (List.mem_of_getElem? (i := 183) rfl) rfl
theorem wm_777 : (.instanceMethod yX1_forget : Cond) ∈ en_wl := en_m2 (List.mem_of_getElem? (i := 181) rfl) rfl
theorem wm_778 : (.selects RX1 yX1_forget yX1_forget : Cond) ∈ en_wl := en_m2 (List.mem_of_getElem? (i := 182) rfl) rfl
theorem wm_779 : (.code yX2_init cX2_init 1 (none) : Cond) ∈ en_wl := en_m2 (List.mem_of_getElem? (i := 25) rfl) rfl
theorem wm_780 : (.instanceMethod yX2_init : Cond) ∈ en_wl := en_m2 (List.mem_of_getElem? (i := 24) rfl) rfl
theorem wm_781 : (.methodLink RX2 5 objectInit : Cond) ∈ en_wl := en_m2 (List.mem_of_getElem? (i := 26) rfl) rfl
theorem wm_782 : (.fieldLink RX2 11 "EachMayMissOne$Night" "kinds" "[I" : Cond) ∈ en_wl := en_m2 (List.mem_of_getElem? (i := 27) rfl) rfl
theorem wm_783 : (.fieldLink RX2 15 "EachMayMissOne$Night" "values" "[I" : Cond) ∈ en_wl := en_m2 (List.mem_of_getElem? (i := 29) rfl) rfl
theorem wm_784 : (.code yX2_read cX2_read 5 (some .int) : Cond) ∈ en_wl := en_m3 (List.mem_of_getElem? (i := 221) rfl) rfl
theorem wm_785 : (.instanceMethod yX2_read : Cond) ∈ en_wl := en_m3 (List.mem_of_getElem? (i := 219) rfl) rfl
theorem wm_786 : (.selects RX2 yX2_read yX2_read : Cond) ∈ en_wl := en_m3 (List.mem_of_getElem? (i := 220) rfl) rfl
theorem wm_787 : (.fieldLink RX2 18 "EachMayMissOne$Night" "many" "I" : Cond) ∈ en_wl := en_m2 (List.mem_of_getElem? (i := 31) rfl) rfl
theorem wm_788 : (.fieldLink RX2 22 "EachMayMissOne$Text" "length" "I" : Cond) ∈ en_wl := en_m1 (List.mem_of_getElem? (i := 46) rfl) rfl
theorem wm_789 : (.methodLink RX2 27 yX2_readAct : Cond) ∈ en_wl := en_m3 (List.mem_of_getElem? (i := 222) rfl) rfl
theorem wm_790 : (.methodLink RX2 31 yX8_at : Cond) ∈ en_wl := en_m3 (List.mem_of_getElem? (i := 226) rfl) rfl
theorem wm_791 : (.methodLinkNest RX2 35 yX11_cannotStand RX11 : Cond) ∈ lw_tbl := en_t3 (List.mem_of_getElem? (i := 235) rfl)
theorem wm_792 : (.code yX2_readAct cX2_readAct 5 (some .int) : Cond) ∈ en_wl := en_m3 (List.mem_of_getElem? (i := 225) rfl) rfl
theorem wm_793 : (.instanceMethod yX2_readAct : Cond) ∈ en_wl := en_m3 (List.mem_of_getElem? (i := 224) rfl) rfl
theorem wm_794 : (.selects RX2 yX2_readAct yX2_readAct : Cond) ∈ en_wl := en_ms (q := (yX2_readAct, 3)) (List.mem_of_getElem? (i := 13) rfl) rfl
theorem wm_795 : (.methodLink RX2 39 yX2_write : Cond) ∈ en_wl := en_m3 (List.mem_of_getElem? (i := 227) rfl) rfl
theorem wm_796 : (.methodLink RX2 43 yX2_readRounds : Cond) ∈ en_wl := en_m3 (List.mem_of_getElem? (i := 231) rfl) rfl
theorem wm_797 : (.methodLink RX2 46 yX2_isLetter : Cond) ∈ en_wl := en_m3 (List.mem_of_getElem? (i := 236) rfl) rfl
theorem wm_798 : (.methodLink RX2 50 yX2_readMissing : Cond) ∈ en_wl := en_m3 (List.mem_of_getElem? (i := 239) rfl) rfl
theorem wm_799 : (.code yX2_readRounds cX2_readRounds 7 (some .int) : Cond) ∈ en_wl := en_m3 (List.mem_of_getElem? (i := 234) rfl) rfl
theorem wm_800 : (.instanceMethod yX2_readRounds : Cond) ∈ en_wl := en_m3 (List.mem_of_getElem? (i := 233) rfl) rfl
theorem wm_801 : (.selects RX2 yX2_readRounds yX2_readRounds : Cond) ∈ en_wl := en_ms (q := (yX2_readRounds, 3)) (List.mem_of_getElem? (i := 15) rfl) rfl
theorem wm_802 : (.code yX2_readMissing cX2_readMissing 6 (some .int) : Cond) ∈ en_wl := en_m4 (List.mem_of_getElem? (i := 2) rfl) rfl
theorem wm_803 : (.instanceMethod yX2_readMissing : Cond) ∈ en_wl := en_m4 (List.mem_of_getElem? (i := 1) rfl) rfl
theorem wm_804 : (.selects RX2 yX2_readMissing yX2_readMissing : Cond) ∈ en_wl := en_ms (q := (yX2_readMissing, 3)) (List.mem_of_getElem? (i := 16) rfl) rfl
theorem wm_805 : (.methodLinkNest RX2 53 yX11_bit RX11 : Cond) ∈ lw_tbl := en_t4 (List.mem_of_getElem? (i := 3) rfl)
theorem wm_806 : (.code yX2_isLetter cX2_isLetter 1 (some .boolean) : Cond) ∈ en_wl := en_m3 (List.mem_of_getElem? (i := 238) rfl) rfl
theorem wm_807 : (.static yX2_isLetter : Cond) ∈ en_wl := en_m3 (List.mem_of_getElem? (i := 237) rfl) rfl
theorem wm_808 : (.code yX2_write cX2_write 3 (none) : Cond) ∈ en_wl := en_m3 (List.mem_of_getElem? (i := 230) rfl) rfl
theorem wm_809 : (.instanceMethod yX2_write : Cond) ∈ en_wl := en_m3 (List.mem_of_getElem? (i := 229) rfl) rfl
theorem wm_810 : (.selects RX2 yX2_write yX2_write : Cond) ∈ en_wl := en_ms (q := (yX2_write, 3)) (List.mem_of_getElem? (i := 14) rfl) rfl
theorem wm_811 : (.code yX3_init cX3_init 1 (none) : Cond) ∈ en_wl := en_m2 (List.mem_of_getElem? (i := 74) rfl) rfl
theorem wm_812 : (.instanceMethod yX3_init : Cond) ∈ en_wl := en_m2 (List.mem_of_getElem? (i := 73) rfl) rfl
theorem wm_813 : (.methodLink RX3 3 objectInit : Cond) ∈ en_wl := en_m2 (List.mem_of_getElem? (i := 75) rfl) rfl
theorem wm_814 : (.classLink RX3 9 "[[I" : Cond) ∈ en_wl := en_m2 (List.mem_of_getElem? (i := 76) rfl) rfl
theorem wm_815 : (.fieldLink RX3 11 "EachMayMissOne$Pairs" "worth" "[[I" : Cond) ∈ en_wl := en_m2 (List.mem_of_getElem? (i := 77) rfl) rfl
theorem wm_816 : (.fieldLink RX3 16 "EachMayMissOne$Pairs" "best" "[I" : Cond) ∈ en_wl := en_m2 (List.mem_of_getElem? (i := 78) rfl) rfl
theorem wm_817 : (.code yX3_begin cX3_begin 2 (none) : Cond) ∈ en_wl := en_m4 (List.mem_of_getElem? (i := 112) rfl) rfl
theorem wm_818 : (.instanceMethod yX3_begin : Cond) ∈ en_wl := en_m4 (List.mem_of_getElem? (i := 110) rfl) rfl
theorem wm_819 : (.selects RX3 yX3_begin yX3_begin : Cond) ∈ en_wl := en_m4 (List.mem_of_getElem? (i := 111) rfl) rfl
theorem wm_820 : (.fieldLink RX3 20 "EachMayMissOne$Pairs" "those" "I" : Cond) ∈ en_wl := en_m2 (List.mem_of_getElem? (i := 79) rfl) rfl
theorem wm_821 : (.code yX3_both cX3_both 3 (some .boolean) : Cond) ∈ en_wl := en_m4 (List.mem_of_getElem? (i := 116) rfl) rfl
theorem wm_822 : (.instanceMethod yX3_both : Cond) ∈ en_wl := en_m4 (List.mem_of_getElem? (i := 114) rfl) rfl
theorem wm_823 : (.selects RX3 yX3_both yX3_both : Cond) ∈ en_wl := en_m4 (List.mem_of_getElem? (i := 115) rfl) rfl
theorem wm_824 : (.methodLinkNest RX3 24 yX11_bit RX11 : Cond) ∈ lw_tbl := en_t4 (List.mem_of_getElem? (i := 117) rfl)
theorem wm_825 : (.code yX3_put cX3_put 4 (none) : Cond) ∈ en_wl := en_m4 (List.mem_of_getElem? (i := 121) rfl) rfl
theorem wm_826 : (.instanceMethod yX3_put : Cond) ∈ en_wl := en_m4 (List.mem_of_getElem? (i := 119) rfl) rfl
theorem wm_827 : (.selects RX3 yX3_put yX3_put : Cond) ∈ en_wl := en_m4 (List.mem_of_getElem? (i := 120) rfl) rfl
theorem wm_828 : (.code yX3_match cX3_match 7 (some .int) : Cond) ∈ en_wl := en_m4 (List.mem_of_getElem? (i := 125) rfl) rfl
theorem wm_829 : (.instanceMethod yX3_match : Cond) ∈ en_wl := en_m4 (List.mem_of_getElem? (i := 123) rfl) rfl
theorem wm_830 : (.selects RX3 yX3_match yX3_match : Cond) ∈ en_wl := en_m4 (List.mem_of_getElem? (i := 124) rfl) rfl
theorem wm_831 : (.methodLink RX3 28 yX3_bestOf : Cond) ∈ en_wl := en_m4 (List.mem_of_getElem? (i := 126) rfl) rfl
theorem wm_832 : (.methodLink RX3 32 yX9_begin : Cond) ∈ en_wl := en_m4 (List.mem_of_getElem? (i := 139) rfl) rfl
theorem wm_833 : (.methodLinkNest RX3 37 yX11_bellAt RX11 : Cond) ∈ lw_tbl := en_t4 (List.mem_of_getElem? (i := 140) rfl)
theorem wm_834 : (.methodLink RX3 40 yX9_add : Cond) ∈ en_wl := en_m4 (List.mem_of_getElem? (i := 141) rfl) rfl
theorem wm_835 : (.methodLink RX3 44 yX3_leastPartner : Cond) ∈ en_wl := en_m4 (List.mem_of_getElem? (i := 142) rfl) rfl
theorem wm_836 : (.methodLinkNest RX3 47 yX11_withBell RX11 : Cond) ∈ lw_tbl := en_t4 (List.mem_of_getElem? (i := 146) rfl)
theorem wm_837 : (.code yX3_bestOf cX3_bestOf 5 (some .int) : Cond) ∈ en_wl := en_m4 (List.mem_of_getElem? (i := 129) rfl) rfl
theorem wm_838 : (.instanceMethod yX3_bestOf : Cond) ∈ en_wl := en_m4 (List.mem_of_getElem? (i := 128) rfl) rfl
theorem wm_839 : (.selects RX3 yX3_bestOf yX3_bestOf : Cond) ∈ en_wl := en_ms (q := (yX3_bestOf, 3)) (List.mem_of_getElem? (i := 25) rfl) rfl
theorem wm_840 : (.methodLinkNest RX3 51 yX11_firstOf RX11 : Cond) ∈ lw_tbl := en_t4 (List.mem_of_getElem? (i := 130) rfl)
theorem wm_841 : (.methodLink RX3 54 yX3_withPartner : Cond) ∈ en_wl := en_m4 (List.mem_of_getElem? (i := 133) rfl) rfl
theorem wm_842 : (.methodLink RX3 57 yJ9_max_7cf53 : Cond) ∈ en_wl := en_m4 (List.mem_of_getElem? (i := 138) rfl) rfl
theorem wm_843 : (.code yX3_leastPartner cX3_leastPartner 4 (some .int) : Cond) ∈ en_wl := en_m4 (List.mem_of_getElem? (i := 145) rfl) rfl
theorem wm_844 : (.instanceMethod yX3_leastPartner : Cond) ∈ en_wl := en_m4 (List.mem_of_getElem? (i := 144) rfl) rfl
theorem wm_845 : (.selects RX3 yX3_leastPartner yX3_leastPartner : Cond) ∈ en_wl := en_ms (q := (yX3_leastPartner, 3)) (List.mem_of_getElem? (i := 27) rfl) rfl
theorem wm_846 : (.code yX3_withPartner cX3_withPartner 5 (some .int) : Cond) ∈ en_wl := en_m4 (List.mem_of_getElem? (i := 136) rfl) rfl
theorem wm_847 : (.instanceMethod yX3_withPartner : Cond) ∈ en_wl := en_m4 (List.mem_of_getElem? (i := 135) rfl) rfl
theorem wm_848 : (.selects RX3 yX3_withPartner yX3_withPartner : Cond) ∈ en_wl := en_ms (q := (yX3_withPartner, 3)) (List.mem_of_getElem? (i := 26) rfl) rfl
theorem wm_849 : (.methodLink RX3 62 yJ6_bitCount_0f7a4 : Cond) ∈ en_wl := en_m4 (List.mem_of_getElem? (i := 137) rfl) rfl
theorem wm_850 : (.code yX4_init cX4_init 2 (none) : Cond) ∈ en_wl := en_m1 (List.mem_of_getElem? (i := 229) rfl) rfl
theorem wm_851 : (.instanceMethod yX4_init : Cond) ∈ en_wl := en_m1 (List.mem_of_getElem? (i := 228) rfl) rfl
theorem wm_852 : (.methodLink RX4 3 objectInit : Cond) ∈ en_wl := en_m1 (List.mem_of_getElem? (i := 230) rfl) rfl
theorem wm_853 : (.classLink RX4 9 "EachMayMissOne$State" : Cond) ∈ en_wl := en_m1 (List.mem_of_getElem? (i := 231) rfl) rfl
theorem wm_854 : (.fieldLink RX4 11 "EachMayMissOne$Past" "states" "[LEachMayMissOne$State;" : Cond) ∈ en_wl := en_m1 (List.mem_of_getElem? (i := 234) rfl) rfl
theorem wm_855 : (.methodLinkNest RX4 17 yX7_init RX11 : Cond) ∈ lw_tbl := en_t1 (List.mem_of_getElem? (i := 233) rfl)
theorem wm_856 : (.code yX4_push cX4_push 2 (none) : Cond) ∈ en_wl := en_m3 (List.mem_of_getElem? (i := 120) rfl) rfl
theorem wm_857 : (.instanceMethod yX4_push : Cond) ∈ en_wl := en_m3 (List.mem_of_getElem? (i := 118) rfl) rfl
theorem wm_858 : (.selects RX4 yX4_push yX4_push : Cond) ∈ en_wl := en_m3 (List.mem_of_getElem? (i := 119) rfl) rfl
theorem wm_859 : (.fieldLink RX4 18 "EachMayMissOne$Past" "size" "I" : Cond) ∈ en_wl := en_m1 (List.mem_of_getElem? (i := 236) rfl) rfl
theorem wm_860 : (.fieldLink RX4 22 "EachMayMissOne$Past" "first" "I" : Cond) ∈ en_wl := en_m1 (List.mem_of_getElem? (i := 235) rfl) rfl
theorem wm_861 : (.methodLink RX4 25 yX7_copy : Cond) ∈ en_wl := en_m3 (List.mem_of_getElem? (i := 121) rfl) rfl
theorem wm_862 : (.code yX4_pop cX4_pop 2 (some .boolean) : Cond) ∈ en_wl := en_m4 (List.mem_of_getElem? (i := 19) rfl) rfl
theorem wm_863 : (.instanceMethod yX4_pop : Cond) ∈ en_wl := en_m4 (List.mem_of_getElem? (i := 17) rfl) rfl
theorem wm_864 : (.selects RX4 yX4_pop yX4_pop : Cond) ∈ en_wl := en_m4 (List.mem_of_getElem? (i := 18) rfl) rfl
theorem wm_865 : (.code yX4_forget cX4_forget 1 (none) : Cond) ∈ en_wl := en_m2 (List.mem_of_getElem? (i := 179) rfl) rfl
theorem wm_866 : (.instanceMethod yX4_forget : Cond) ∈ en_wl := en_m2 (List.mem_of_getElem? (i := 177) rfl) rfl
theorem wm_867 : (.selects RX4 yX4_forget yX4_forget : Cond) ∈ en_wl := en_m2 (List.mem_of_getElem? (i := 178) rfl) rfl
theorem wm_868 : (.code yX5_init cX5_init 1 (none) : Cond) ∈ en_wl := en_m2 (List.mem_of_getElem? (i := 44) rfl) rfl
theorem wm_869 : (.instanceMethod yX5_init : Cond) ∈ en_wl := en_m2 (List.mem_of_getElem? (i := 43) rfl) rfl
theorem wm_870 : (.methodLink RX5 5 objectInit : Cond) ∈ en_wl := en_m2 (List.mem_of_getElem? (i := 45) rfl) rfl
theorem wm_871 : (.classLink RX5 11 "[[I" : Cond) ∈ en_wl := en_m2 (List.mem_of_getElem? (i := 46) rfl) rfl
theorem wm_872 : (.fieldLink RX5 13 "EachMayMissOne$Plan" "sets" "[[I" : Cond) ∈ en_wl := en_m2 (List.mem_of_getElem? (i := 48) rfl) rfl
theorem wm_873 : (.fieldLink RX5 16 "EachMayMissOne$Plan" "many" "[I" : Cond) ∈ en_wl := en_m2 (List.mem_of_getElem? (i := 49) rfl) rfl
theorem wm_874 : (.fieldLink RX5 20 "EachMayMissOne$Plan" "where" "[[I" : Cond) ∈ en_wl := en_m2 (List.mem_of_getElem? (i := 50) rfl) rfl
theorem wm_875 : (.fieldLink RX5 23 "EachMayMissOne$Plan" "best" "[[I" : Cond) ∈ en_wl := en_m2 (List.mem_of_getElem? (i := 51) rfl) rfl
theorem wm_876 : (.fieldLink RX5 26 "EachMayMissOne$Plan" "latest" "[[I" : Cond) ∈ en_wl := en_m2 (List.mem_of_getElem? (i := 52) rfl) rfl
theorem wm_877 : (.fieldLink RX5 29 "EachMayMissOne$Plan" "before" "[[I" : Cond) ∈ en_wl := en_m2 (List.mem_of_getElem? (i := 53) rfl) rfl
theorem wm_878 : (.code yX5_prepare cX5_prepare 7 (none) : Cond) ∈ en_wl := en_m4 (List.mem_of_getElem? (i := 154) rfl) rfl
theorem wm_879 : (.instanceMethod yX5_prepare : Cond) ∈ en_wl := en_m4 (List.mem_of_getElem? (i := 152) rfl) rfl
theorem wm_880 : (.selects RX5 yX5_prepare yX5_prepare : Cond) ∈ en_wl := en_m4 (List.mem_of_getElem? (i := 153) rfl) rfl
theorem wm_881 : (.fieldLink RX5 32 "EachMayMissOne$Tower" "bells" "I" : Cond) ∈ en_wl := en_m1 (List.mem_of_getElem? (i := 138) rfl) rfl
theorem wm_882 : (.methodLink RX5 38 yX10_breach : Cond) ∈ en_wl := en_m4 (List.mem_of_getElem? (i := 155) rfl) rfl
theorem wm_883 : (.methodLinkNest RX5 42 yX11_placesOf RX11 : Cond) ∈ lw_tbl := en_t4 (List.mem_of_getElem? (i := 156) rfl)
theorem wm_884 : (.code yX5_mayFollow cX5_mayFollow 5 (some .boolean) : Cond) ∈ en_wl := en_m4 (List.mem_of_getElem? (i := 169) rfl) rfl
theorem wm_885 : (.instanceMethod yX5_mayFollow : Cond) ∈ en_wl := en_m4 (List.mem_of_getElem? (i := 168) rfl) rfl
theorem wm_886 : (.selects RX5 yX5_mayFollow yX5_mayFollow : Cond) ∈ en_wl := en_ms (q := (yX5_mayFollow, 7)) (List.mem_of_getElem? (i := 29) rfl) rfl
theorem wm_887 : (.code yX5_mostMissed cX5_mostMissed 9 (some .int) : Cond) ∈ en_wl := en_m4 (List.mem_of_getElem? (i := 160) rfl) rfl
theorem wm_888 : (.instanceMethod yX5_mostMissed : Cond) ∈ en_wl := en_m4 (List.mem_of_getElem? (i := 158) rfl) rfl
theorem wm_889 : (.selects RX5 yX5_mostMissed yX5_mostMissed : Cond) ∈ en_wl := en_m4 (List.mem_of_getElem? (i := 159) rfl) rfl
theorem wm_890 : (.code yJ7_fill_53178 cJ7_fill_53178 4 (none) : Cond) ∈ en_wl := en_m2 (List.mem_of_getElem? (i := 175) rfl) rfl
theorem wm_891 : (.static yJ7_fill_53178 : Cond) ∈ en_wl := en_m2 (List.mem_of_getElem? (i := 174) rfl) rfl
theorem wm_892 : (.initialized RJ7 : Cond) ∈ en_wl := en_m1 (List.mem_of_getElem? (i := 15) rfl) rfl
theorem wm_893 : (.methodLink RX5 46 yJ7_fill_53178 : Cond) ∈ en_wl := en_m4 (List.mem_of_getElem? (i := 161) rfl) rfl
theorem wm_894 : (.methodLink RX5 52 yX5_bestSet : Cond) ∈ en_wl := en_m4 (List.mem_of_getElem? (i := 162) rfl) rfl
theorem wm_895 : (.methodLink RX5 56 yX5_worth : Cond) ∈ en_wl := en_m4 (List.mem_of_getElem? (i := 170) rfl) rfl
theorem wm_896 : (.methodLink RX5 59 yX9_begin : Cond) ∈ en_wl := en_m4 (List.mem_of_getElem? (i := 175) rfl) rfl
theorem wm_897 : (.fieldLink RX5 64 "EachMayMissOne$State" "who" "I" : Cond) ∈ en_wl := en_m1 (List.mem_of_getElem? (i := 194) rfl) rfl
theorem wm_898 : (.fieldLink RX5 69 "EachMayMissOne$State" "where" "I" : Cond) ∈ en_wl := en_m1 (List.mem_of_getElem? (i := 198) rfl) rfl
theorem wm_899 : (.methodLink RX5 71 yX9_add : Cond) ∈ en_wl := en_m4 (List.mem_of_getElem? (i := 176) rfl) rfl
theorem wm_900 : (.methodLink RX5 75 yJ6_bitCount_0f7a4 : Cond) ∈ en_wl := en_m4 (List.mem_of_getElem? (i := 174) rfl) rfl
theorem wm_901 : (.code yX5_worth cX5_worth 3 (some .int) : Cond) ∈ en_wl := en_m4 (List.mem_of_getElem? (i := 173) rfl) rfl
theorem wm_902 : (.instanceMethod yX5_worth : Cond) ∈ en_wl := en_m4 (List.mem_of_getElem? (i := 172) rfl) rfl
theorem wm_903 : (.selects RX5 yX5_worth yX5_worth : Cond) ∈ en_wl := en_ms (q := (yX5_worth, 7)) (List.mem_of_getElem? (i := 30) rfl) rfl
theorem wm_904 : (.code yX5_bestSet cX5_bestSet 7 (some .int) : Cond) ∈ en_wl := en_m4 (List.mem_of_getElem? (i := 165) rfl) rfl
theorem wm_905 : (.instanceMethod yX5_bestSet : Cond) ∈ en_wl := en_m4 (List.mem_of_getElem? (i := 164) rfl) rfl
theorem wm_906 : (.selects RX5 yX5_bestSet yX5_bestSet : Cond) ∈ en_wl := en_ms (q := (yX5_bestSet, 7)) (List.mem_of_getElem? (i := 28) rfl) rfl
theorem wm_907 : (.methodLink RX5 81 yX5_mayFollow : Cond) ∈ en_wl := en_m4 (List.mem_of_getElem? (i := 166) rfl) rfl
theorem wm_908 : (.code yX5_fewestRounds cX5_fewestRounds 8 (some .int) : Cond) ∈ en_wl := en_m4 (List.mem_of_getElem? (i := 184) rfl) rfl
theorem wm_909 : (.instanceMethod yX5_fewestRounds : Cond) ∈ en_wl := en_m4 (List.mem_of_getElem? (i := 182) rfl) rfl
theorem wm_910 : (.selects RX5 yX5_fewestRounds yX5_fewestRounds : Cond) ∈ en_wl := en_m4 (List.mem_of_getElem? (i := 183) rfl) rfl
theorem wm_911 : (.fieldLink RX5 85 "EachMayMissOne$Plan" "enough" "I" : Cond) ∈ en_wl := en_m2 (List.mem_of_getElem? (i := 54) rfl) rfl
theorem wm_912 : (.methodLink RX5 88 yX5_beginNaps : Cond) ∈ en_wl := en_m4 (List.mem_of_getElem? (i := 185) rfl) rfl
theorem wm_913 : (.methodLink RX5 92 yX5_widen : Cond) ∈ en_wl := en_m4 (List.mem_of_getElem? (i := 198) rfl) rfl
theorem wm_914 : (.methodLink RX5 95 yX5_narrow : Cond) ∈ en_wl := en_m4 (List.mem_of_getElem? (i := 206) rfl) rfl
theorem wm_915 : (.methodLink RX5 99 yX5_tellNaps : Cond) ∈ en_wl := en_m4 (List.mem_of_getElem? (i := 218) rfl) rfl
theorem wm_916 : (.code yX5_beginNaps cX5_beginNaps 5 (none) : Cond) ∈ en_wl := en_m4 (List.mem_of_getElem? (i := 188) rfl) rfl
theorem wm_917 : (.instanceMethod yX5_beginNaps : Cond) ∈ en_wl := en_m4 (List.mem_of_getElem? (i := 187) rfl) rfl
theorem wm_918 : (.selects RX5 yX5_beginNaps yX5_beginNaps : Cond) ∈ en_wl := en_ms (q := (yX5_beginNaps, 7)) (List.mem_of_getElem? (i := 31) rfl) rfl
theorem wm_919 : (.methodLink RX5 103 yX5_setsBefore : Cond) ∈ en_wl := en_m4 (List.mem_of_getElem? (i := 189) rfl) rfl
theorem wm_920 : (.methodLink RX5 106 yX5_napsWith : Cond) ∈ en_wl := en_m4 (List.mem_of_getElem? (i := 193) rfl) rfl
theorem wm_921 : (.code yX5_setsBefore cX5_setsBefore 6 (some .int) : Cond) ∈ en_wl := en_m4 (List.mem_of_getElem? (i := 192) rfl) rfl
theorem wm_922 : (.instanceMethod yX5_setsBefore : Cond) ∈ en_wl := en_m4 (List.mem_of_getElem? (i := 191) rfl) rfl
theorem wm_923 : (.selects RX5 yX5_setsBefore yX5_setsBefore : Cond) ∈ en_wl := en_ms (q := (yX5_setsBefore, 7)) (List.mem_of_getElem? (i := 32) rfl) rfl
theorem wm_924 : (.code yX5_widen cX5_widen 3 (none) : Cond) ∈ en_wl := en_m4 (List.mem_of_getElem? (i := 201) rfl) rfl
theorem wm_925 : (.instanceMethod yX5_widen : Cond) ∈ en_wl := en_m4 (List.mem_of_getElem? (i := 200) rfl) rfl
theorem wm_926 : (.selects RX5 yX5_widen yX5_widen : Cond) ∈ en_wl := en_ms (q := (yX5_widen, 7)) (List.mem_of_getElem? (i := 34) rfl) rfl
theorem wm_927 : (.methodLink RX5 109 yX5_widenFrom : Cond) ∈ en_wl := en_m4 (List.mem_of_getElem? (i := 202) rfl) rfl
theorem wm_928 : (.code yX5_widenFrom cX5_widenFrom 5 (none) : Cond) ∈ en_wl := en_m4 (List.mem_of_getElem? (i := 205) rfl) rfl
theorem wm_929 : (.instanceMethod yX5_widenFrom : Cond) ∈ en_wl := en_m4 (List.mem_of_getElem? (i := 204) rfl) rfl
theorem wm_930 : (.selects RX5 yX5_widenFrom yX5_widenFrom : Cond) ∈ en_wl := en_ms (q := (yX5_widenFrom, 7)) (List.mem_of_getElem? (i := 35) rfl) rfl
theorem wm_931 : (.code yX5_narrow cX5_narrow 5 (none) : Cond) ∈ en_wl := en_m4 (List.mem_of_getElem? (i := 209) rfl) rfl
theorem wm_932 : (.instanceMethod yX5_narrow : Cond) ∈ en_wl := en_m4 (List.mem_of_getElem? (i := 208) rfl) rfl
theorem wm_933 : (.selects RX5 yX5_narrow yX5_narrow : Cond) ∈ en_wl := en_ms (q := (yX5_narrow, 7)) (List.mem_of_getElem? (i := 36) rfl) rfl
theorem wm_934 : (.methodLink RX5 112 yX5_leadingOn : Cond) ∈ en_wl := en_m4 (List.mem_of_getElem? (i := 210) rfl) rfl
theorem wm_935 : (.code yX5_leadingOn cX5_leadingOn 6 (some .int) : Cond) ∈ en_wl := en_m4 (List.mem_of_getElem? (i := 213) rfl) rfl
theorem wm_936 : (.instanceMethod yX5_leadingOn : Cond) ∈ en_wl := en_m4 (List.mem_of_getElem? (i := 212) rfl) rfl
theorem wm_937 : (.selects RX5 yX5_leadingOn yX5_leadingOn : Cond) ∈ en_wl := en_ms (q := (yX5_leadingOn, 7)) (List.mem_of_getElem? (i := 37) rfl) rfl
theorem wm_938 : (.methodLink RX5 115 yX5_leadsOn : Cond) ∈ en_wl := en_m4 (List.mem_of_getElem? (i := 214) rfl) rfl
theorem wm_939 : (.code yX5_leadsOn cX5_leadsOn 4 (some .boolean) : Cond) ∈ en_wl := en_m4 (List.mem_of_getElem? (i := 217) rfl) rfl
theorem wm_940 : (.instanceMethod yX5_leadsOn : Cond) ∈ en_wl := en_m4 (List.mem_of_getElem? (i := 216) rfl) rfl
theorem wm_941 : (.selects RX5 yX5_leadsOn yX5_leadsOn : Cond) ∈ en_wl := en_ms (q := (yX5_leadsOn, 7)) (List.mem_of_getElem? (i := 38) rfl) rfl
theorem wm_942 : (.methodLinkNest RX5 119 yX11_bit RX11 : Cond) ∈ lw_tbl := en_t4 (List.mem_of_getElem? (i := 197) rfl)
theorem wm_943 : (.code yX5_nextSet cX5_nextSet 7 (some .int) : Cond) ∈ en_wl := en_m4 (List.mem_of_getElem? (i := 225) rfl) rfl
theorem wm_944 : (.instanceMethod yX5_nextSet : Cond) ∈ en_wl := en_m4 (List.mem_of_getElem? (i := 224) rfl) rfl
theorem wm_945 : (.selects RX5 yX5_nextSet yX5_nextSet : Cond) ∈ en_wl := en_ms (q := (yX5_nextSet, 7)) (List.mem_of_getElem? (i := 40) rfl) rfl
theorem wm_946 : (.code yX5_tellNaps cX5_tellNaps 9 (none) : Cond) ∈ en_wl := en_m4 (List.mem_of_getElem? (i := 221) rfl) rfl
theorem wm_947 : (.instanceMethod yX5_tellNaps : Cond) ∈ en_wl := en_m4 (List.mem_of_getElem? (i := 220) rfl) rfl
theorem wm_948 : (.selects RX5 yX5_tellNaps yX5_tellNaps : Cond) ∈ en_wl := en_ms (q := (yX5_tellNaps, 7)) (List.mem_of_getElem? (i := 39) rfl) rfl
theorem wm_949 : (.methodLink RX5 122 yX5_nextSet : Cond) ∈ en_wl := en_m4 (List.mem_of_getElem? (i := 222) rfl) rfl
theorem wm_950 : (.methodLink RX5 126 yJ9_max_7cf53 : Cond) ∈ en_wl := en_m4 (List.mem_of_getElem? (i := 226) rfl) rfl
theorem wm_951 : (.code yX5_napsWith cX5_napsWith 5 (some .int) : Cond) ∈ en_wl := en_m4 (List.mem_of_getElem? (i := 196) rfl) rfl
theorem wm_952 : (.instanceMethod yX5_napsWith : Cond) ∈ en_wl := en_m4 (List.mem_of_getElem? (i := 195) rfl) rfl
theorem wm_953 : (.selects RX5 yX5_napsWith yX5_napsWith : Cond) ∈ en_wl := en_ms (q := (yX5_napsWith, 7)) (List.mem_of_getElem? (i := 33) rfl) rfl
theorem wm_954 : (.code yX6_init cX6_init 1 (none) : Cond) ∈ en_wl := en_m1 (List.mem_of_getElem? (i := 95) rfl) rfl
theorem wm_955 : (.instanceMethod yX6_init : Cond) ∈ en_wl := en_m1 (List.mem_of_getElem? (i := 94) rfl) rfl
theorem wm_956 : (.initialized RX6 : Cond) ∈ en_wl := en_m1 (List.mem_of_getElem? (i := 6) rfl) rfl
theorem wm_957 : (.methodLink RX6 1 objectInit : Cond) ∈ en_wl := en_m1 (List.mem_of_getElem? (i := 96) rfl) rfl
theorem wm_958 : (.fieldLink RX6 9 "EachMayMissOne$Rule" "codes" "[I" : Cond) ∈ en_wl := en_m1 (List.mem_of_getElem? (i := 108) rfl) rfl
theorem wm_959 : (.fieldLink RX6 13 "EachMayMissOne$Rule" "draft" "[I" : Cond) ∈ en_wl := en_m1 (List.mem_of_getElem? (i := 109) rfl) rfl
theorem wm_960 : (.fieldLink RX6 16 "EachMayMissOne$Rule" "stack" "[I" : Cond) ∈ en_wl := en_m1 (List.mem_of_getElem? (i := 110) rfl) rfl
theorem wm_961 : (.code yJ0_length_8abf5 cJ0_length_8abf5 1 (some .int) : Cond) ∈ en_wl := en_m1 (List.mem_of_getElem? (i := 101) rfl) rfl
theorem wm_962 : (.instanceMethod yJ0_length_8abf5 : Cond) ∈ en_wl := en_m1 (List.mem_of_getElem? (i := 99) rfl) rfl
theorem wm_963 : (.initialized RJ0 : Cond) ∈ en_wl := en_m1 (List.mem_of_getElem? (i := 7) rfl) rfl
theorem wm_964 : (.selects RJ0 yJ0_length_8abf5 yJ0_length_8abf5 : Cond) ∈ en_wl := en_m1 (List.mem_of_getElem? (i := 100) rfl) rfl
theorem wm_965 : (.methodLink RX6 21 yJ0_length_8abf5 : Cond) ∈ en_wl := en_m1 (List.mem_of_getElem? (i := 98) rfl) rfl
theorem wm_966 : (.fieldLink RX6 27 "EachMayMissOne$Rule" "things" "[I" : Cond) ∈ en_wl := en_m1 (List.mem_of_getElem? (i := 111) rfl) rfl
theorem wm_967 : (.code yX6_read cX6_read 2 (some .int) : Cond) ∈ en_wl := en_m2 (List.mem_of_getElem? (i := 213) rfl) rfl
theorem wm_968 : (.instanceMethod yX6_read : Cond) ∈ en_wl := en_m2 (List.mem_of_getElem? (i := 211) rfl) rfl
theorem wm_969 : (.selects RX6 yX6_read yX6_read : Cond) ∈ en_wl := en_m2 (List.mem_of_getElem? (i := 212) rfl) rfl
theorem wm_970 : (.fieldLink RX6 30 "EachMayMissOne$Text" "length" "I" : Cond) ∈ en_wl := en_m1 (List.mem_of_getElem? (i := 44) rfl) rfl
theorem wm_971 : (.fieldLink RX6 35 "EachMayMissOne$Rule" "size" "I" : Cond) ∈ en_wl := en_m1 (List.mem_of_getElem? (i := 113) rfl) rfl
theorem wm_972 : (.fieldLink RX6 38 "EachMayMissOne$Rule" "at" "I" : Cond) ∈ en_wl := en_m1 (List.mem_of_getElem? (i := 115) rfl) rfl
theorem wm_973 : (.fieldLink RX6 41 "EachMayMissOne$Rule" "drafted" "I" : Cond) ∈ en_wl := en_m1 (List.mem_of_getElem? (i := 114) rfl) rfl
theorem wm_974 : (.methodLink RX6 44 yX6_readExpression : Cond) ∈ en_wl := en_m2 (List.mem_of_getElem? (i := 214) rfl) rfl
theorem wm_975 : (.methodLink RX6 48 yX6_peek : Cond) ∈ en_wl := en_m2 (List.mem_of_getElem? (i := 230) rfl) rfl
theorem wm_976 : (.methodLinkNest RX6 52 yX11_cannotStand RX11 : Cond) ∈ lw_tbl := en_t3 (List.mem_of_getElem? (i := 88) rfl)
theorem wm_977 : (.methodLink RX6 58 arraycopyName : Cond) ∈ en_wl := en_m3 (List.mem_of_getElem? (i := 89) rfl) rfl
theorem wm_978 : (.code yX6_peek cX6_peek 2 (some .int) : Cond) ∈ en_wl := en_m2 (List.mem_of_getElem? (i := 233) rfl) rfl
theorem wm_979 : (.instanceMethod yX6_peek : Cond) ∈ en_wl := en_m2 (List.mem_of_getElem? (i := 232) rfl) rfl
theorem wm_980 : (.selects RX6 yX6_peek yX6_peek : Cond) ∈ en_wl := en_ms (q := (yX6_peek, 7)) (List.mem_of_getElem? (i := 6) rfl) rfl
theorem wm_981 : (.methodLink RX6 64 yX8_at : Cond) ∈ en_wl := en_m2 (List.mem_of_getElem? (i := 234) rfl) rfl
theorem wm_982 : (.code yX6_write cX6_write 2 (none) : Cond) ∈ en_wl := en_m3 (List.mem_of_getElem? (i := 10) rfl) rfl
theorem wm_983 : (.instanceMethod yX6_write : Cond) ∈ en_wl := en_m3 (List.mem_of_getElem? (i := 9) rfl) rfl
theorem wm_984 : (.selects RX6 yX6_write yX6_write : Cond) ∈ en_wl := en_ms (q := (yX6_write, 7)) (List.mem_of_getElem? (i := 10) rfl) rfl
theorem wm_985 : (.code yX6_readExpression cX6_readExpression 4 (some .boolean) : Cond) ∈ en_wl := en_m2 (List.mem_of_getElem? (i := 217) rfl) rfl
theorem wm_986 : (.instanceMethod yX6_readExpression : Cond) ∈ en_wl := en_m2 (List.mem_of_getElem? (i := 216) rfl) rfl
theorem wm_987 : (.selects RX6 yX6_readExpression yX6_readExpression : Cond) ∈ en_wl := en_ms (q := (yX6_readExpression, 7)) (List.mem_of_getElem? (i := 2) rfl) rfl
theorem wm_988 : (.methodLink RX6 67 yX6_readSum : Cond) ∈ en_wl := en_m2 (List.mem_of_getElem? (i := 218) rfl) rfl
theorem wm_989 : (.methodLink RX6 70 yX6_write : Cond) ∈ en_wl := en_m3 (List.mem_of_getElem? (i := 7) rfl) rfl
theorem wm_990 : (.code yX6_readSum cX6_readSum 6 (some .boolean) : Cond) ∈ en_wl := en_m2 (List.mem_of_getElem? (i := 221) rfl) rfl
theorem wm_991 : (.instanceMethod yX6_readSum : Cond) ∈ en_wl := en_m2 (List.mem_of_getElem? (i := 220) rfl) rfl
theorem wm_992 : (.selects RX6 yX6_readSum yX6_readSum : Cond) ∈ en_wl := en_ms (q := (yX6_readSum, 7)) (List.mem_of_getElem? (i := 3) rfl) rfl
theorem wm_993 : (.methodLink RX6 74 yX6_readProduct : Cond) ∈ en_wl := en_m2 (List.mem_of_getElem? (i := 222) rfl) rfl
theorem wm_994 : (.code yX6_readProduct cX6_readProduct 6 (some .boolean) : Cond) ∈ en_wl := en_m2 (List.mem_of_getElem? (i := 225) rfl) rfl
theorem wm_995 : (.instanceMethod yX6_readProduct : Cond) ∈ en_wl := en_m2 (List.mem_of_getElem? (i := 224) rfl) rfl
theorem wm_996 : (.selects RX6 yX6_readProduct yX6_readProduct : Cond) ∈ en_wl := en_ms (q := (yX6_readProduct, 7)) (List.mem_of_getElem? (i := 4) rfl) rfl
theorem wm_997 : (.methodLink RX6 77 yX6_readFactor : Cond) ∈ en_wl := en_m2 (List.mem_of_getElem? (i := 226) rfl) rfl
theorem wm_998 : (.code yX6_readFactor cX6_readFactor 5 (some .boolean) : Cond) ∈ en_wl := en_m2 (List.mem_of_getElem? (i := 229) rfl) rfl
theorem wm_999 : (.instanceMethod yX6_readFactor : Cond) ∈ en_wl := en_m2 (List.mem_of_getElem? (i := 228) rfl) rfl
theorem wm_1000 : (.selects RX6 yX6_readFactor yX6_readFactor : Cond) ∈ en_wl := en_ms (q := (yX6_readFactor, 7)) (List.mem_of_getElem? (i := 5) rfl) rfl
theorem wm_1001 : (.methodLink RX6 80 yX6_readThing : Cond) ∈ en_wl := en_m2 (List.mem_of_getElem? (i := 235) rfl) rfl
theorem wm_1002 : (.code yX6_readThing cX6_readThing 5 (some .boolean) : Cond) ∈ en_wl := en_m2 (List.mem_of_getElem? (i := 238) rfl) rfl
theorem wm_1003 : (.instanceMethod yX6_readThing : Cond) ∈ en_wl := en_m2 (List.mem_of_getElem? (i := 237) rfl) rfl
theorem wm_1004 : (.selects RX6 yX6_readThing yX6_readThing : Cond) ∈ en_wl := en_ms (q := (yX6_readThing, 7)) (List.mem_of_getElem? (i := 7) rfl) rfl
theorem wm_1005 : (.methodLink RX6 83 yX6_readInside : Cond) ∈ en_wl := en_m2 (List.mem_of_getElem? (i := 239) rfl) rfl
theorem wm_1006 : (.methodLink RX6 86 yX6_readNumber : Cond) ∈ en_wl := en_m3 (List.mem_of_getElem? (i := 3) rfl) rfl
theorem wm_1007 : (.code yJ0_indexOf_0f7a4 cJ0_indexOf_0f7a4 2 (some .int) : Cond) ∈ en_wl := en_m3 (List.mem_of_getElem? (i := 14) rfl) rfl
theorem wm_1008 : (.instanceMethod yJ0_indexOf_0f7a4 : Cond) ∈ en_wl := en_m3 (List.mem_of_getElem? (i := 12) rfl) rfl
theorem wm_1009 : (.selects RJ0 yJ0_indexOf_0f7a4 yJ0_indexOf_0f7a4 : Cond) ∈ en_wl := en_m3 (List.mem_of_getElem? (i := 13) rfl) rfl
theorem wm_1010 : (.methodLink RX6 90 yJ0_indexOf_0f7a4 : Cond) ∈ en_wl := en_m3 (List.mem_of_getElem? (i := 11) rfl) rfl
theorem wm_1011 : (.code yX6_readInside cX6_readInside 3 (some .boolean) : Cond) ∈ en_wl := en_m3 (List.mem_of_getElem? (i := 2) rfl) rfl
theorem wm_1012 : (.instanceMethod yX6_readInside : Cond) ∈ en_wl := en_m3 (List.mem_of_getElem? (i := 1) rfl) rfl
theorem wm_1013 : (.selects RX6 yX6_readInside yX6_readInside : Cond) ∈ en_wl := en_ms (q := (yX6_readInside, 7)) (List.mem_of_getElem? (i := 8) rfl) rfl
theorem wm_1014 : (.code yX6_readNumber cX6_readNumber 5 (none) : Cond) ∈ en_wl := en_m3 (List.mem_of_getElem? (i := 6) rfl) rfl
theorem wm_1015 : (.instanceMethod yX6_readNumber : Cond) ∈ en_wl := en_m3 (List.mem_of_getElem? (i := 5) rfl) rfl
theorem wm_1016 : (.selects RX6 yX6_readNumber yX6_readNumber : Cond) ∈ en_wl := en_ms (q := (yX6_readNumber, 7)) (List.mem_of_getElem? (i := 9) rfl) rfl
theorem wm_1017 : (.code yX6_value cX6_value 4 (some .int) : Cond) ∈ en_wl := en_m3 (List.mem_of_getElem? (i := 161) rfl) rfl
theorem wm_1018 : (.instanceMethod yX6_value : Cond) ∈ en_wl := en_m3 (List.mem_of_getElem? (i := 159) rfl) rfl
theorem wm_1019 : (.selects RX6 yX6_value yX6_value : Cond) ∈ en_wl := en_m3 (List.mem_of_getElem? (i := 160) rfl) rfl
theorem wm_1020 : (.methodLink RX6 93 yX6_worked : Cond) ∈ en_wl := en_m3 (List.mem_of_getElem? (i := 162) rfl) rfl
theorem wm_1021 : (.code yX6_worked cX6_worked 3 (some .int) : Cond) ∈ en_wl := en_m3 (List.mem_of_getElem? (i := 164) rfl) rfl
theorem wm_1022 : (.static yX6_worked : Cond) ∈ en_wl := en_m3 (List.mem_of_getElem? (i := 163) rfl) rfl
theorem wm_1023 : (.code yX7_init cX7_init 1 (none) : Cond) ∈ en_wl := en_m1 (List.mem_of_getElem? (i := 166) rfl) rfl
theorem wm_1024 : (.instanceMethod yX7_init : Cond) ∈ en_wl := en_m1 (List.mem_of_getElem? (i := 165) rfl) rfl
theorem wm_1025 : (.methodLink RX7 3 objectInit : Cond) ∈ en_wl := en_m1 (List.mem_of_getElem? (i := 167) rfl) rfl
theorem wm_1026 : (.fieldLink RX7 9 "EachMayMissOne$State" "tired" "[I" : Cond) ∈ en_wl := en_m1 (List.mem_of_getElem? (i := 174) rfl) rfl
theorem wm_1027 : (.fieldLink RX7 15 "EachMayMissOne$State" "slept" "[I" : Cond) ∈ en_wl := en_m1 (List.mem_of_getElem? (i := 177) rfl) rfl
theorem wm_1028 : (.fieldLink RX7 18 "EachMayMissOne$State" "drifts" "[I" : Cond) ∈ en_wl := en_m1 (List.mem_of_getElem? (i := 180) rfl) rfl
theorem wm_1029 : (.fieldLink RX7 21 "EachMayMissOne$State" "heard" "[I" : Cond) ∈ en_wl := en_m1 (List.mem_of_getElem? (i := 183) rfl) rfl
theorem wm_1030 : (.methodLinkNest RX7 24 yX11_inPlaceOrder RX11 : Cond) ∈ lw_tbl := en_t1 (List.mem_of_getElem? (i := 168) rfl)
theorem wm_1031 : (.fieldLink RX7 28 "EachMayMissOne$State" "order" "I" : Cond) ∈ en_wl := en_m1 (List.mem_of_getElem? (i := 184) rfl) rfl
theorem wm_1032 : (.code yX7_begin cX7_begin 1 (none) : Cond) ∈ en_wl := en_m2 (List.mem_of_getElem? (i := 172) rfl) rfl
theorem wm_1033 : (.instanceMethod yX7_begin : Cond) ∈ en_wl := en_m2 (List.mem_of_getElem? (i := 170) rfl) rfl
theorem wm_1034 : (.selects RX7 yX7_begin yX7_begin : Cond) ∈ en_wl := en_m2 (List.mem_of_getElem? (i := 171) rfl) rfl
theorem wm_1035 : (.methodLink RX7 32 yJ7_fill_53178 : Cond) ∈ en_wl := en_m2 (List.mem_of_getElem? (i := 173) rfl) rfl
theorem wm_1036 : (.fieldLink RX7 38 "EachMayMissOne$State" "now" "I" : Cond) ∈ en_wl := en_m1 (List.mem_of_getElem? (i := 187) rfl) rfl
theorem wm_1037 : (.fieldLink RX7 41 "EachMayMissOne$State" "deaths" "I" : Cond) ∈ en_wl := en_m1 (List.mem_of_getElem? (i := 190) rfl) rfl
theorem wm_1038 : (.fieldLink RX7 44 "EachMayMissOne$State" "who" "I" : Cond) ∈ en_wl := en_m1 (List.mem_of_getElem? (i := 193) rfl) rfl
theorem wm_1039 : (.fieldLink RX7 47 "EachMayMissOne$State" "where" "I" : Cond) ∈ en_wl := en_m1 (List.mem_of_getElem? (i := 197) rfl) rfl
theorem wm_1040 : (.fieldLink RX7 50 "EachMayMissOne$State" "drifted" "I" : Cond) ∈ en_wl := en_m1 (List.mem_of_getElem? (i := 201) rfl) rfl
theorem wm_1041 : (.code yX7_copy cX7_copy 2 (none) : Cond) ∈ en_wl := en_m3 (List.mem_of_getElem? (i := 124) rfl) rfl
theorem wm_1042 : (.instanceMethod yX7_copy : Cond) ∈ en_wl := en_m3 (List.mem_of_getElem? (i := 122) rfl) rfl
theorem wm_1043 : (.selects RX7 yX7_copy yX7_copy : Cond) ∈ en_wl := en_m3 (List.mem_of_getElem? (i := 123) rfl) rfl
theorem wm_1044 : (.methodLink RX7 53 arraycopyName : Cond) ∈ en_wl := en_m3 (List.mem_of_getElem? (i := 125) rfl) rfl
theorem wm_1045 : (.code yX7_drink cX7_drink 2 (none) : Cond) ∈ en_wl := en_m3 (List.mem_of_getElem? (i := 212) rfl) rfl
theorem wm_1046 : (.instanceMethod yX7_drink : Cond) ∈ en_wl := en_m3 (List.mem_of_getElem? (i := 210) rfl) rfl
theorem wm_1047 : (.selects RX7 yX7_drink yX7_drink : Cond) ∈ en_wl := en_m3 (List.mem_of_getElem? (i := 211) rfl) rfl
theorem wm_1048 : (.methodLink RX7 59 yJ9_max_7cf53 : Cond) ∈ en_wl := en_m3 (List.mem_of_getElem? (i := 213) rfl) rfl
theorem wm_1049 : (.code yX7_tiredOf cX7_tiredOf 4 (some .int) : Cond) ∈ en_wl := en_m4 (List.mem_of_getElem? (i := 86) rfl) rfl
theorem wm_1050 : (.instanceMethod yX7_tiredOf : Cond) ∈ en_wl := en_m4 (List.mem_of_getElem? (i := 84) rfl) rfl
theorem wm_1051 : (.selects RX7 yX7_tiredOf yX7_tiredOf : Cond) ∈ en_wl := en_m4 (List.mem_of_getElem? (i := 85) rfl) rfl
theorem wm_1052 : (.methodLinkNest RX7 65 yX11_bit RX11 : Cond) ∈ lw_tbl := en_t4 (List.mem_of_getElem? (i := 87) rfl)
theorem wm_1053 : (.code yX7_knows cX7_knows 2 (some .boolean) : Cond) ∈ en_wl := en_m4 (List.mem_of_getElem? (i := 238) rfl) rfl
theorem wm_1054 : (.instanceMethod yX7_knows : Cond) ∈ en_wl := en_m4 (List.mem_of_getElem? (i := 236) rfl) rfl
theorem wm_1055 : (.selects RX7 yX7_knows yX7_knows : Cond) ∈ en_wl := en_m4 (List.mem_of_getElem? (i := 237) rfl) rfl
theorem wm_1056 : (.code yX7_missedIn cX7_missedIn 2 (some .int) : Cond) ∈ en_wl := en_m5 (List.mem_of_getElem? (i := 2) rfl) rfl
theorem wm_1057 : (.instanceMethod yX7_missedIn : Cond) ∈ en_wl := en_m5 (List.mem_of_getElem? (i := 0) rfl) rfl
theorem wm_1058 : (.selects RX7 yX7_missedIn yX7_missedIn : Cond) ∈ en_wl := en_m5 (List.mem_of_getElem? (i := 1) rfl) rfl
theorem wm_1059 : (.methodLink RX7 68 yX7_knows : Cond) ∈ en_wl := en_m5 (List.mem_of_getElem? (i := 3) rfl) rfl
theorem wm_1060 : (.methodLink RX7 72 yJ9_floorMod_7cf53 : Cond) ∈ en_wl := en_m3 (List.mem_of_getElem? (i := 184) rfl) rfl
theorem wm_1061 : (.code yX7_goOn cX7_goOn 4 (none) : Cond) ∈ en_wl := en_m3 (List.mem_of_getElem? (i := 183) rfl) rfl
theorem wm_1062 : (.instanceMethod yX7_goOn : Cond) ∈ en_wl := en_m3 (List.mem_of_getElem? (i := 181) rfl) rfl
theorem wm_1063 : (.selects RX7 yX7_goOn yX7_goOn : Cond) ∈ en_wl := en_m3 (List.mem_of_getElem? (i := 182) rfl) rfl
theorem wm_1064 : (.code yX8_init cX8_init 1 (none) : Cond) ∈ en_wl := en_m1 (List.mem_of_getElem? (i := 39) rfl) rfl
theorem wm_1065 : (.instanceMethod yX8_init : Cond) ∈ en_wl := en_m1 (List.mem_of_getElem? (i := 38) rfl) rfl
theorem wm_1066 : (.methodLink RX8 1 objectInit : Cond) ∈ en_wl := en_m1 (List.mem_of_getElem? (i := 40) rfl) rfl
theorem wm_1067 : (.fieldLink RX8 9 "EachMayMissOne$Text" "signs" "[I" : Cond) ∈ en_wl := en_m1 (List.mem_of_getElem? (i := 41) rfl) rfl
theorem wm_1068 : (.code yX8_addFour cX8_addFour 3 (some .boolean) : Cond) ∈ en_wl := en_m2 (List.mem_of_getElem? (i := 137) rfl) rfl
theorem wm_1069 : (.instanceMethod yX8_addFour : Cond) ∈ en_wl := en_m2 (List.mem_of_getElem? (i := 135) rfl) rfl
theorem wm_1070 : (.selects RX8 yX8_addFour yX8_addFour : Cond) ∈ en_wl := en_m2 (List.mem_of_getElem? (i := 136) rfl) rfl
theorem wm_1071 : (.fieldLink RX8 13 "EachMayMissOne$Text" "length" "I" : Cond) ∈ en_wl := en_m1 (List.mem_of_getElem? (i := 42) rfl) rfl
theorem wm_1072 : (.code yX8_cutTo cX8_cutTo 2 (some .boolean) : Cond) ∈ en_wl := en_m2 (List.mem_of_getElem? (i := 145) rfl) rfl
theorem wm_1073 : (.instanceMethod yX8_cutTo : Cond) ∈ en_wl := en_m2 (List.mem_of_getElem? (i := 143) rfl) rfl
theorem wm_1074 : (.selects RX8 yX8_cutTo yX8_cutTo : Cond) ∈ en_wl := en_m2 (List.mem_of_getElem? (i := 144) rfl) rfl
theorem wm_1075 : (.code yX8_clear cX8_clear 1 (none) : Cond) ∈ en_wl := en_m2 (List.mem_of_getElem? (i := 168) rfl) rfl
theorem wm_1076 : (.instanceMethod yX8_clear : Cond) ∈ en_wl := en_m2 (List.mem_of_getElem? (i := 166) rfl) rfl
theorem wm_1077 : (.selects RX8 yX8_clear yX8_clear : Cond) ∈ en_wl := en_m2 (List.mem_of_getElem? (i := 167) rfl) rfl
theorem wm_1078 : (.code yX8_at cX8_at 3 (some .int) : Cond) ∈ en_wl := en_m2 (List.mem_of_getElem? (i := 157) rfl) rfl
theorem wm_1079 : (.instanceMethod yX8_at : Cond) ∈ en_wl := en_m2 (List.mem_of_getElem? (i := 155) rfl) rfl
theorem wm_1080 : (.selects RX8 yX8_at yX8_at : Cond) ∈ en_wl := en_m2 (List.mem_of_getElem? (i := 156) rfl) rfl
theorem wm_1081 : (.code yX9_init cX9_init 1 (none) : Cond) ∈ en_wl := en_m1 (List.mem_of_getElem? (i := 57) rfl) rfl
theorem wm_1082 : (.instanceMethod yX9_init : Cond) ∈ en_wl := en_m1 (List.mem_of_getElem? (i := 56) rfl) rfl
theorem wm_1083 : (.methodLink RX9 1 objectInit : Cond) ∈ en_wl := en_m1 (List.mem_of_getElem? (i := 58) rfl) rfl
theorem wm_1084 : (.fieldLink RX9 7 "EachMayMissOne$Told" "numbers" "[I" : Cond) ∈ en_wl := en_m1 (List.mem_of_getElem? (i := 59) rfl) rfl
theorem wm_1085 : (.code yX9_begin cX9_begin 1 (none) : Cond) ∈ en_wl := en_m3 (List.mem_of_getElem? (i := 188) rfl) rfl
theorem wm_1086 : (.instanceMethod yX9_begin : Cond) ∈ en_wl := en_m3 (List.mem_of_getElem? (i := 186) rfl) rfl
theorem wm_1087 : (.selects RX9 yX9_begin yX9_begin : Cond) ∈ en_wl := en_m3 (List.mem_of_getElem? (i := 187) rfl) rfl
theorem wm_1088 : (.fieldLink RX9 13 "EachMayMissOne$Told" "size" "I" : Cond) ∈ en_wl := en_m1 (List.mem_of_getElem? (i := 61) rfl) rfl
theorem wm_1089 : (.code yX9_add cX9_add 2 (none) : Cond) ∈ en_wl := en_m3 (List.mem_of_getElem? (i := 192) rfl) rfl
theorem wm_1090 : (.instanceMethod yX9_add : Cond) ∈ en_wl := en_m3 (List.mem_of_getElem? (i := 190) rfl) rfl
theorem wm_1091 : (.selects RX9 yX9_add yX9_add : Cond) ∈ en_wl := en_m3 (List.mem_of_getElem? (i := 191) rfl) rfl
theorem wm_1092 : (.code yX10_init cX10_init 1 (none) : Cond) ∈ en_wl := en_m1 (List.mem_of_getElem? (i := 72) rfl) rfl
theorem wm_1093 : (.instanceMethod yX10_init : Cond) ∈ en_wl := en_m1 (List.mem_of_getElem? (i := 71) rfl) rfl
theorem wm_1094 : (.methodLink RX10 3 objectInit : Cond) ∈ en_wl := en_m1 (List.mem_of_getElem? (i := 73) rfl) rfl
theorem wm_1095 : (.fieldLink RX10 9 "EachMayMissOne$Tower" "weights" "[I" : Cond) ∈ en_wl := en_m1 (List.mem_of_getElem? (i := 132) rfl) rfl
theorem wm_1096 : (.classLink RX10 15 RX0 : Cond) ∈ en_wl := en_m1 (List.mem_of_getElem? (i := 74) rfl) rfl
theorem wm_1097 : (.instantiable RX0 3 : Cond) ∈ en_wl := en_m1 (List.mem_of_getElem? (i := 75) rfl) rfl
theorem wm_1098 : (.methodLinkNest RX10 17 yX0_init RX11 : Cond) ∈ lw_tbl := en_t1 (List.mem_of_getElem? (i := 76) rfl)
theorem wm_1099 : (.fieldLink RX10 18 "EachMayMissOne$Tower" "changes" "LEachMayMissOne$Changes;" : Cond) ∈ en_wl := en_m1 (List.mem_of_getElem? (i := 134) rfl) rfl
theorem wm_1100 : (.classLink RX10 22 RX6 : Cond) ∈ en_wl := en_m1 (List.mem_of_getElem? (i := 91) rfl) rfl
theorem wm_1101 : (.instantiable RX6 7 : Cond) ∈ en_wl := en_m1 (List.mem_of_getElem? (i := 92) rfl) rfl
theorem wm_1102 : (.methodLinkNest RX10 24 yX6_init RX11 : Cond) ∈ lw_tbl := en_t1 (List.mem_of_getElem? (i := 93) rfl)
theorem wm_1103 : (.fieldLink RX10 25 "EachMayMissOne$Tower" "rule" "LEachMayMissOne$Rule;" : Cond) ∈ en_wl := en_m1 (List.mem_of_getElem? (i := 136) rfl) rfl
theorem wm_1104 : (.fieldLink RX10 29 "EachMayMissOne$Tower" "tenor" "I" : Cond) ∈ en_wl := en_m1 (List.mem_of_getElem? (i := 141) rfl) rfl
theorem wm_1105 : (.fieldLink RX10 33 "EachMayMissOne$Tower" "most" "I" : Cond) ∈ en_wl := en_m1 (List.mem_of_getElem? (i := 143) rfl) rfl
theorem wm_1106 : (.fieldLink RX10 36 "EachMayMissOne$Tower" "rest" "I" : Cond) ∈ en_wl := en_m1 (List.mem_of_getElem? (i := 145) rfl) rfl
theorem wm_1107 : (.code yX10_readWeights cX10_readWeights 5 (some .int) : Cond) ∈ en_wl := en_m2 (List.mem_of_getElem? (i := 153) rfl) rfl
theorem wm_1108 : (.instanceMethod yX10_readWeights : Cond) ∈ en_wl := en_m2 (List.mem_of_getElem? (i := 151) rfl) rfl
theorem wm_1109 : (.selects RX10 yX10_readWeights yX10_readWeights : Cond) ∈ en_wl := en_m2 (List.mem_of_getElem? (i := 152) rfl) rfl
theorem wm_1110 : (.methodLink RX10 39 yX8_at : Cond) ∈ en_wl := en_m2 (List.mem_of_getElem? (i := 154) rfl) rfl
theorem wm_1111 : (.methodLinkNest RX10 45 yX11_cannotStand RX11 : Cond) ∈ lw_tbl := en_t2 (List.mem_of_getElem? (i := 158) rfl)
theorem wm_1112 : (.fieldLink RX10 49 "EachMayMissOne$Tower" "bells" "I" : Cond) ∈ en_wl := en_m1 (List.mem_of_getElem? (i := 139) rfl) rfl
theorem wm_1113 : (.methodLink RX10 52 yX0_useX : Cond) ∈ en_wl := en_m2 (List.mem_of_getElem? (i := 161) rfl) rfl
theorem wm_1114 : (.code yX10_hasRinger cX10_hasRinger 2 (some .boolean) : Cond) ∈ en_wl := en_m3 (List.mem_of_getElem? (i := 208) rfl) rfl
theorem wm_1115 : (.instanceMethod yX10_hasRinger : Cond) ∈ en_wl := en_m3 (List.mem_of_getElem? (i := 206) rfl) rfl
theorem wm_1116 : (.selects RX10 yX10_hasRinger yX10_hasRinger : Cond) ∈ en_wl := en_m3 (List.mem_of_getElem? (i := 207) rfl) rfl
theorem wm_1117 : (.code yX10_hasTwo cX10_hasTwo 3 (some .boolean) : Cond) ∈ en_wl := en_m4 (List.mem_of_getElem? (i := 67) rfl) rfl
theorem wm_1118 : (.instanceMethod yX10_hasTwo : Cond) ∈ en_wl := en_m4 (List.mem_of_getElem? (i := 65) rfl) rfl
theorem wm_1119 : (.selects RX10 yX10_hasTwo yX10_hasTwo : Cond) ∈ en_wl := en_m4 (List.mem_of_getElem? (i := 66) rfl) rfl
theorem wm_1120 : (.methodLink RX10 55 yX10_hasRinger : Cond) ∈ en_wl := en_m4 (List.mem_of_getElem? (i := 68) rfl) rfl
theorem wm_1121 : (.code yX10_hasAll cX10_hasAll 2 (some .boolean) : Cond) ∈ en_wl := en_m3 (List.mem_of_getElem? (i := 116) rfl) rfl
theorem wm_1122 : (.instanceMethod yX10_hasAll : Cond) ∈ en_wl := en_m3 (List.mem_of_getElem? (i := 114) rfl) rfl
theorem wm_1123 : (.selects RX10 yX10_hasAll yX10_hasAll : Cond) ∈ en_wl := en_m3 (List.mem_of_getElem? (i := 115) rfl) rfl
theorem wm_1124 : (.code yX10_breach cX10_breach 7 (some .int) : Cond) ∈ en_wl := en_m3 (List.mem_of_getElem? (i := 133) rfl) rfl
theorem wm_1125 : (.instanceMethod yX10_breach : Cond) ∈ en_wl := en_m3 (List.mem_of_getElem? (i := 131) rfl) rfl
theorem wm_1126 : (.selects RX10 yX10_breach yX10_breach : Cond) ∈ en_wl := en_m3 (List.mem_of_getElem? (i := 132) rfl) rfl
theorem wm_1127 : (.methodLink RX10 59 yJ6_bitCount_0f7a4 : Cond) ∈ en_wl := en_m3 (List.mem_of_getElem? (i := 134) rfl) rfl
theorem wm_1128 : (.methodLinkNest RX10 64 yX11_placesOf RX11 : Cond) ∈ lw_tbl := en_t3 (List.mem_of_getElem? (i := 140) rfl)
theorem wm_1129 : (.methodLinkNest RX10 67 yX11_bit RX11 : Cond) ∈ lw_tbl := en_t3 (List.mem_of_getElem? (i := 149) rfl)
theorem wm_1130 : (.code yX10_moreTired cX10_moreTired 4 (some .int) : Cond) ∈ en_wl := en_m3 (List.mem_of_getElem? (i := 154) rfl) rfl
theorem wm_1131 : (.instanceMethod yX10_moreTired : Cond) ∈ en_wl := en_m3 (List.mem_of_getElem? (i := 152) rfl) rfl
theorem wm_1132 : (.selects RX10 yX10_moreTired yX10_moreTired : Cond) ∈ en_wl := en_m3 (List.mem_of_getElem? (i := 153) rfl) rfl
theorem wm_1133 : (.fieldLink RX10 70 "EachMayMissOne$Rule" "things" "[I" : Cond) ∈ en_wl := en_m1 (List.mem_of_getElem? (i := 112) rfl) rfl
theorem wm_1134 : (.fieldLink RX10 73 "EachMayMissOne$State" "tired" "[I" : Cond) ∈ en_wl := en_m1 (List.mem_of_getElem? (i := 175) rfl) rfl
theorem wm_1135 : (.fieldLink RX10 78 "EachMayMissOne$State" "order" "I" : Cond) ∈ en_wl := en_m1 (List.mem_of_getElem? (i := 185) rfl) rfl
theorem wm_1136 : (.methodLinkNest RX10 81 yX11_placeOf RX11 : Cond) ∈ lw_tbl := en_t3 (List.mem_of_getElem? (i := 155) rfl)
theorem wm_1137 : (.fieldLink RX10 84 "EachMayMissOne$State" "now" "I" : Cond) ∈ en_wl := en_m1 (List.mem_of_getElem? (i := 188) rfl) rfl
theorem wm_1138 : (.fieldLink RX10 87 "EachMayMissOne$State" "slept" "[I" : Cond) ∈ en_wl := en_m1 (List.mem_of_getElem? (i := 178) rfl) rfl
theorem wm_1139 : (.methodLink RX10 90 yX6_value : Cond) ∈ en_wl := en_m3 (List.mem_of_getElem? (i := 158) rfl) rfl
theorem wm_1140 : (.methodLinkNest RX10 94 yX11_put RX11 : Cond) ∈ lw_tbl := en_t3 (List.mem_of_getElem? (i := 165) rfl)
theorem wm_1141 : (.code yX10_ring cX10_ring 7 (some .int) : Cond) ∈ en_wl := en_m3 (List.mem_of_getElem? (i := 129) rfl) rfl
theorem wm_1142 : (.instanceMethod yX10_ring : Cond) ∈ en_wl := en_m3 (List.mem_of_getElem? (i := 127) rfl) rfl
theorem wm_1143 : (.selects RX10 yX10_ring yX10_ring : Cond) ∈ en_wl := en_m3 (List.mem_of_getElem? (i := 128) rfl) rfl
theorem wm_1144 : (.fieldLink RX10 97 "EachMayMissOne$State" "who" "I" : Cond) ∈ en_wl := en_m1 (List.mem_of_getElem? (i := 196) rfl) rfl
theorem wm_1145 : (.fieldLink RX10 100 "EachMayMissOne$State" "where" "I" : Cond) ∈ en_wl := en_m1 (List.mem_of_getElem? (i := 199) rfl) rfl
theorem wm_1146 : (.methodLink RX10 103 yX10_breach : Cond) ∈ en_wl := en_m3 (List.mem_of_getElem? (i := 130) rfl) rfl
theorem wm_1147 : (.fieldLink RX10 107 "EachMayMissOne$State" "deaths" "I" : Cond) ∈ en_wl := en_m1 (List.mem_of_getElem? (i := 191) rfl) rfl
theorem wm_1148 : (.fieldLink RX10 110 "EachMayMissOne$State" "drifted" "I" : Cond) ∈ en_wl := en_m1 (List.mem_of_getElem? (i := 202) rfl) rfl
theorem wm_1149 : (.methodLink RX10 113 yJ9_max_7cf53 : Cond) ∈ en_wl := en_m3 (List.mem_of_getElem? (i := 150) rfl) rfl
theorem wm_1150 : (.methodLink RX10 118 yX10_moreTired : Cond) ∈ en_wl := en_m3 (List.mem_of_getElem? (i := 151) rfl) rfl
theorem wm_1151 : (.fieldLink RX10 122 "EachMayMissOne$State" "drifts" "[I" : Cond) ∈ en_wl := en_m1 (List.mem_of_getElem? (i := 182) rfl) rfl
theorem wm_1152 : (.methodLink RX10 125 yJ9_min_7cf53 : Cond) ∈ en_wl := en_m3 (List.mem_of_getElem? (i := 166) rfl) rfl
theorem wm_1153 : (.methodLink RX10 128 yX0_next : Cond) ∈ en_wl := en_m3 (List.mem_of_getElem? (i := 167) rfl) rfl
theorem wm_1154 : (.methodLink RX10 132 yX7_goOn : Cond) ∈ en_wl := en_m3 (List.mem_of_getElem? (i := 180) rfl) rfl
theorem wm_1155 : (.code yX10_mostTiredThatMay cX10_mostTiredThatMay 5 (some .int) : Cond) ∈ en_wl := en_m5 (List.mem_of_getElem? (i := 37) rfl) rfl
theorem wm_1156 : (.instanceMethod yX10_mostTiredThatMay : Cond) ∈ en_wl := en_m5 (List.mem_of_getElem? (i := 35) rfl) rfl
theorem wm_1157 : (.selects RX10 yX10_mostTiredThatMay yX10_mostTiredThatMay : Cond) ∈ en_wl := en_m5 (List.mem_of_getElem? (i := 36) rfl) rfl
theorem wm_1158 : (.methodLink RL 7 yX11_ringer : Cond) ∈ en_wl := en_m5 (List.mem_of_getElem? (i := 88) rfl) rfl
theorem wm_1159 : (.methodLink RL 15 yX11_bell : Cond) ∈ en_wl := en_m5 (List.mem_of_getElem? (i := 162) rfl) rfl
theorem wm_1160 : (.methodLink RL 19 yX11_row : Cond) ∈ en_wl := en_m5 (List.mem_of_getElem? (i := 170) rfl) rfl
theorem wm_1161 : (.classLink RL 8 RX11 : Cond) ∈ en_wl := en_m1 (List.mem_of_getElem? (i := 27) rfl) rfl
theorem wm_1162 : (.instantiable RX11 14 : Cond) ∈ en_wl := en_m1 (List.mem_of_getElem? (i := 28) rfl) rfl
theorem wm_1163 : (.methodLink RL 22 yX11_init : Cond) ∈ en_wl := en_m1 (List.mem_of_getElem? (i := 29) rfl) rfl
theorem wm_1164 : (.classLink RL 23 RX12 : Cond) ∈ en_wl := en_m5 (List.mem_of_getElem? (i := 175) rfl) rfl
theorem wm_1165 : (.instantiable RX12 44 : Cond) ∈ en_wl := en_m5 (List.mem_of_getElem? (i := 176) rfl) rfl
theorem wm_1166 : (.methodLink RL 25 yX12_init : Cond) ∈ en_wl := en_m5 (List.mem_of_getElem? (i := 177) rfl) rfl
theorem wm_1167 : (.methodLink RL 26 yX11_sign : Cond) ∈ en_wl := en_m2 (List.mem_of_getElem? (i := 130) rfl) rfl
theorem wm_1168 : (.methodLink RL 29 yX12_sign : Cond) ∈ en_wl := en_m6 (List.mem_of_getElem? (i := 78) rfl) rfl
theorem wm_1169 : (.methodLink RL 30 yX11_end : Cond) ∈ en_wl := en_m2 (List.mem_of_getElem? (i := 138) rfl) rfl
theorem wm_1170 : (.methodLink RL 34 yX12_end : Cond) ∈ en_wl := en_m6 (List.mem_of_getElem? (i := 82) rfl) rfl
theorem wm_1171 : (.methodLink RL 35 yX11_tower : Cond) ∈ en_wl := en_m2 (List.mem_of_getElem? (i := 146) rfl) rfl
theorem wm_1172 : (.methodLink RL 39 yX12_tower : Cond) ∈ en_wl := en_m6 (List.mem_of_getElem? (i := 89) rfl) rfl
theorem wm_1173 : (.methodLink RL 40 yX11_method : Cond) ∈ en_wl := en_m2 (List.mem_of_getElem? (i := 184) rfl) rfl
theorem wm_1174 : (.methodLink RL 43 yX12_method : Cond) ∈ en_wl := en_m6 (List.mem_of_getElem? (i := 93) rfl) rfl
theorem wm_1175 : (.methodLink RL 44 yX11_rule : Cond) ∈ en_wl := en_m2 (List.mem_of_getElem? (i := 206) rfl) rfl
theorem wm_1176 : (.methodLink RL 47 yX12_rule : Cond) ∈ en_wl := en_m6 (List.mem_of_getElem? (i := 126) rfl) rfl
theorem wm_1177 : (.methodLink RL 48 yL_ringer : Cond) ∈ en_wl := en_m5 (List.mem_of_getElem? (i := 84) rfl) rfl
theorem wm_1178 : (.methodLink RL 53 yX12_ringer : Cond) ∈ en_wl := en_m6 (List.mem_of_getElem? (i := 153) rfl) rfl
theorem wm_1179 : (.methodLink RL 54 yX12_thrown : Cond) ∈ en_wl := en_m6 (List.mem_of_getElem? (i := 74) rfl) rfl
theorem wm_1180 : (.methodLink RL 57 yL_bell : Cond) ∈ en_wl := en_m5 (List.mem_of_getElem? (i := 159) rfl) rfl
theorem wm_1181 : (.methodLink RL 60 yX12_bell : Cond) ∈ en_wl := en_m6 (List.mem_of_getElem? (i := 174) rfl) rfl
theorem wm_1182 : (.methodLink RL 61 yX11_set : Cond) ∈ en_wl := en_m3 (List.mem_of_getElem? (i := 90) rfl) rfl
theorem wm_1183 : (.methodLink RL 64 yX12_set : Cond) ∈ en_wl := en_m6 (List.mem_of_getElem? (i := 178) rfl) rfl
theorem wm_1184 : (.methodLink RL 65 yX11_sheet : Cond) ∈ en_wl := en_m3 (List.mem_of_getElem? (i := 94) rfl) rfl
theorem wm_1185 : (.methodLink RL 69 yX12_sheet : Cond) ∈ en_wl := en_m6 (List.mem_of_getElem? (i := 182) rfl) rfl
theorem wm_1186 : (.methodLink RL 70 yX11_round : Cond) ∈ en_wl := en_m3 (List.mem_of_getElem? (i := 109) rfl) rfl
theorem wm_1187 : (.methodLink RL 73 yX12_round : Cond) ∈ en_wl := en_m6 (List.mem_of_getElem? (i := 186) rfl) rfl
theorem wm_1188 : (.methodLink RL 74 yX11_rounds : Cond) ∈ en_wl := en_m3 (List.mem_of_getElem? (i := 193) rfl) rfl
theorem wm_1189 : (.methodLink RL 77 yX12_rounds : Cond) ∈ en_wl := en_m6 (List.mem_of_getElem? (i := 237) rfl) rfl
theorem wm_1190 : (.methodLink RL 78 yX11_beer : Cond) ∈ en_wl := en_m3 (List.mem_of_getElem? (i := 201) rfl) rfl
theorem wm_1191 : (.methodLink RL 81 yX12_beer : Cond) ∈ en_wl := en_m7 (List.mem_of_getElem? (i := 5) rfl) rfl
theorem wm_1192 : (.methodLink RL 82 yX11_night : Cond) ∈ en_wl := en_m3 (List.mem_of_getElem? (i := 214) rfl) rfl
theorem wm_1193 : (.methodLink RL 85 yX12_night : Cond) ∈ en_wl := en_m7 (List.mem_of_getElem? (i := 12) rfl) rfl
theorem wm_1194 : (.methodLink RL 86 yX11_undo : Cond) ∈ en_wl := en_m4 (List.mem_of_getElem? (i := 12) rfl) rfl
theorem wm_1195 : (.methodLink RL 89 yX12_undo : Cond) ∈ en_wl := en_m7 (List.mem_of_getElem? (i := 24) rfl) rfl
theorem wm_1196 : (.methodLink RL 90 yX11_order : Cond) ∈ en_wl := en_m4 (List.mem_of_getElem? (i := 20) rfl) rfl
theorem wm_1197 : (.methodLink RL 93 yX12_order : Cond) ∈ en_wl := en_m7 (List.mem_of_getElem? (i := 28) rfl) rfl
theorem wm_1198 : (.methodLink RL 94 yX11_truth : Cond) ∈ en_wl := en_m4 (List.mem_of_getElem? (i := 29) rfl) rfl
theorem wm_1199 : (.methodLink RL 97 yX12_truth : Cond) ∈ en_wl := en_m7 (List.mem_of_getElem? (i := 36) rfl) rfl
theorem wm_1200 : (.methodLink RL 98 yX11_lead : Cond) ∈ en_wl := en_m4 (List.mem_of_getElem? (i := 37) rfl) rfl
theorem wm_1201 : (.methodLink RL 101 yX12_lead : Cond) ∈ en_wl := en_m7 (List.mem_of_getElem? (i := 44) rfl) rfl
theorem wm_1202 : (.methodLink RL 102 yX11_leads : Cond) ∈ en_wl := en_m4 (List.mem_of_getElem? (i := 45) rfl) rfl
theorem wm_1203 : (.methodLink RL 105 yX12_leads : Cond) ∈ en_wl := en_m7 (List.mem_of_getElem? (i := 48) rfl) rfl
theorem wm_1204 : (.methodLink RL 106 yX11_comes : Cond) ∈ en_wl := en_m4 (List.mem_of_getElem? (i := 49) rfl) rfl
theorem wm_1205 : (.methodLink RL 109 yX12_comes : Cond) ∈ en_wl := en_m7 (List.mem_of_getElem? (i := 52) rfl) rfl
theorem wm_1206 : (.methodLink RL 110 yX11_course : Cond) ∈ en_wl := en_m4 (List.mem_of_getElem? (i := 60) rfl) rfl
theorem wm_1207 : (.methodLink RL 114 yX12_course : Cond) ∈ en_wl := en_m7 (List.mem_of_getElem? (i := 60) rfl) rfl
theorem wm_1208 : (.methodLink RL 115 yX11_may : Cond) ∈ en_wl := en_m4 (List.mem_of_getElem? (i := 70) rfl) rfl
theorem wm_1209 : (.methodLink RL 118 yX12_may : Cond) ∈ en_wl := en_m7 (List.mem_of_getElem? (i := 68) rfl) rfl
theorem wm_1210 : (.methodLink RL 119 yX11_lawful : Cond) ∈ en_wl := en_m4 (List.mem_of_getElem? (i := 79) rfl) rfl
theorem wm_1211 : (.methodLink RL 122 yX12_lawful : Cond) ∈ en_wl := en_m7 (List.mem_of_getElem? (i := 72) rfl) rfl
theorem wm_1212 : (.methodLink RL 123 yX11_covers : Cond) ∈ en_wl := en_m4 (List.mem_of_getElem? (i := 88) rfl) rfl
theorem wm_1213 : (.methodLink RL 126 yX12_covers : Cond) ∈ en_wl := en_m7 (List.mem_of_getElem? (i := 76) rfl) rfl
theorem wm_1214 : (.methodLink RL 127 yX11_rivals : Cond) ∈ en_wl := en_m4 (List.mem_of_getElem? (i := 92) rfl) rfl
theorem wm_1215 : (.methodLink RL 130 yX12_rivals : Cond) ∈ en_wl := en_m7 (List.mem_of_getElem? (i := 80) rfl) rfl
theorem wm_1216 : (.methodLink RL 131 yX11_matches : Cond) ∈ en_wl := en_m4 (List.mem_of_getElem? (i := 105) rfl) rfl
theorem wm_1217 : (.methodLink RL 134 yX12_matches : Cond) ∈ en_wl := en_m7 (List.mem_of_getElem? (i := 88) rfl) rfl
theorem wm_1218 : (.methodLink RL 135 yX11_sleeps : Cond) ∈ en_wl := en_m4 (List.mem_of_getElem? (i := 147) rfl) rfl
theorem wm_1219 : (.methodLink RL 138 yX12_sleeps : Cond) ∈ en_wl := en_m7 (List.mem_of_getElem? (i := 96) rfl) rfl
theorem wm_1220 : (.methodLink RL 139 yX11_naps : Cond) ∈ en_wl := en_m4 (List.mem_of_getElem? (i := 177) rfl) rfl
theorem wm_1221 : (.methodLink RL 142 yX12_naps : Cond) ∈ en_wl := en_m7 (List.mem_of_getElem? (i := 108) rfl) rfl
theorem wm_1222 : (.methodLink RL 143 yX11_bound : Cond) ∈ en_wl := en_m4 (List.mem_of_getElem? (i := 227) rfl) rfl
theorem wm_1223 : (.methodLink RL 146 yX12_bound : Cond) ∈ en_wl := en_m7 (List.mem_of_getElem? (i := 128) rfl) rfl
theorem wm_1224 : (.methodLink RL 147 yX11_missed : Cond) ∈ en_wl := en_m4 (List.mem_of_getElem? (i := 231) rfl) rfl
theorem wm_1225 : (.methodLink RL 150 yX12_missed : Cond) ∈ en_wl := en_m7 (List.mem_of_getElem? (i := 132) rfl) rfl
theorem wm_1226 : (.methodLink RL 151 yX11_heard : Cond) ∈ en_wl := en_m5 (List.mem_of_getElem? (i := 4) rfl) rfl
theorem wm_1227 : (.methodLink RL 154 yX12_heard : Cond) ∈ en_wl := en_m7 (List.mem_of_getElem? (i := 136) rfl) rfl
theorem wm_1228 : (.methodLink RL 155 yX11_reads : Cond) ∈ en_wl := en_m5 (List.mem_of_getElem? (i := 8) rfl) rfl
theorem wm_1229 : (.methodLink RL 158 yX12_reads : Cond) ∈ en_wl := en_m7 (List.mem_of_getElem? (i := 140) rfl) rfl
theorem wm_1230 : (.methodLink RL 159 yX11_said : Cond) ∈ en_wl := en_m5 (List.mem_of_getElem? (i := 17) rfl) rfl
theorem wm_1231 : (.methodLink RL 162 yX12_said : Cond) ∈ en_wl := en_m7 (List.mem_of_getElem? (i := 144) rfl) rfl
theorem wm_1232 : (.methodLink RL 163 yX11_says : Cond) ∈ en_wl := en_m5 (List.mem_of_getElem? (i := 21) rfl) rfl
theorem wm_1233 : (.methodLink RL 166 yX12_says : Cond) ∈ en_wl := en_m7 (List.mem_of_getElem? (i := 152) rfl) rfl
theorem wm_1234 : (.methodLink RL 167 yX11_fails : Cond) ∈ en_wl := en_m5 (List.mem_of_getElem? (i := 25) rfl) rfl
theorem wm_1235 : (.methodLink RL 170 yX12_fails : Cond) ∈ en_wl := en_m7 (List.mem_of_getElem? (i := 156) rfl) rfl
theorem wm_1236 : (.methodLink RL 171 yX11_lasts : Cond) ∈ en_wl := en_m5 (List.mem_of_getElem? (i := 38) rfl) rfl
theorem wm_1237 : (.methodLink RL 174 yX12_lasts : Cond) ∈ en_wl := en_m7 (List.mem_of_getElem? (i := 168) rfl) rfl
theorem wm_1238 : (.methodLink RL 175 yX11_stout : Cond) ∈ en_wl := en_m5 (List.mem_of_getElem? (i := 42) rfl) rfl
theorem wm_1239 : (.methodLink RL 178 yX12_stout : Cond) ∈ en_wl := en_m7 (List.mem_of_getElem? (i := 172) rfl) rfl
theorem wm_1240 : (.methodLink RL 179 yX11_weariest : Cond) ∈ en_wl := en_m5 (List.mem_of_getElem? (i := 50) rfl) rfl
theorem wm_1241 : (.methodLink RL 182 yX12_weariest : Cond) ∈ en_wl := en_m7 (List.mem_of_getElem? (i := 180) rfl) rfl
theorem wm_1242 : (.methodLink RL 183 yX11_coughs : Cond) ∈ en_wl := en_m5 (List.mem_of_getElem? (i := 58) rfl) rfl
theorem wm_1243 : (.methodLink RL 186 yX12_coughs : Cond) ∈ en_wl := en_m7 (List.mem_of_getElem? (i := 188) rfl) rfl
theorem wm_1244 : (.methodLink RL 187 yX11_keep : Cond) ∈ en_wl := en_m5 (List.mem_of_getElem? (i := 63) rfl) rfl
theorem wm_1245 : (.methodLink RL 190 yX12_keep : Cond) ∈ en_wl := en_m7 (List.mem_of_getElem? (i := 193) rfl) rfl
theorem wm_1246 : (.methodLink RL 191 yX11_again : Cond) ∈ en_wl := en_m5 (List.mem_of_getElem? (i := 72) rfl) rfl
theorem wm_1247 : (.methodLink RL 194 yX12_again : Cond) ∈ en_wl := en_m7 (List.mem_of_getElem? (i := 197) rfl) rfl
theorem wm_1248 : (.methodLink RL 195 yX11_count : Cond) ∈ en_wl := en_m5 (List.mem_of_getElem? (i := 80) rfl) rfl
theorem wm_1249 : (.methodLink RL 198 yX12_count : Cond) ∈ en_wl := en_m7 (List.mem_of_getElem? (i := 201) rfl) rfl
theorem wm_1250 : (.methodLink RL 199 yL_row : Cond) ∈ en_wl := en_m5 (List.mem_of_getElem? (i := 167) rfl) rfl
theorem wm_1251 : (.methodLink RL 201 yX12_row : Cond) ∈ en_wl := en_m7 (List.mem_of_getElem? (i := 209) rfl) rfl
theorem wm_1252 : (.code yJ0_indexOf_7cf53 cJ0_indexOf_7cf53 3 (some .int) : Cond) ∈ en_wl := en_m3 (List.mem_of_getElem? (i := 18) rfl) rfl
theorem wm_1253 : (.instanceMethod yJ0_indexOf_7cf53 : Cond) ∈ en_wl := en_m3 (List.mem_of_getElem? (i := 16) rfl) rfl
theorem wm_1254 : (.selects RJ0 yJ0_indexOf_7cf53 yJ0_indexOf_7cf53 : Cond) ∈ en_wl := en_m3 (List.mem_of_getElem? (i := 17) rfl) rfl
theorem wm_1255 : (.methodLink RJ0 633 yJ0_indexOf_7cf53 : Cond) ∈ en_wl := en_m3 (List.mem_of_getElem? (i := 15) rfl) rfl
theorem wm_1256 : (.code yJ0_isLatin1_aae02 cJ0_isLatin1_aae02 1 (some .boolean) : Cond) ∈ en_wl := en_m3 (List.mem_of_getElem? (i := 22) rfl) rfl
theorem wm_1257 : (.instanceMethod yJ0_isLatin1_aae02 : Cond) ∈ en_wl := en_m3 (List.mem_of_getElem? (i := 20) rfl) rfl
theorem wm_1258 : (.selects RJ0 yJ0_isLatin1_aae02 yJ0_isLatin1_aae02 : Cond) ∈ en_wl := en_m3 (List.mem_of_getElem? (i := 21) rfl) rfl
theorem wm_1259 : (.methodLink RJ0 492 yJ0_isLatin1_aae02 : Cond) ∈ en_wl := en_m3 (List.mem_of_getElem? (i := 19) rfl) rfl
theorem wm_1260 : (.fieldLink RJ0 9 "java/lang/String" "value" "[B" : Cond) ∈ en_wl := en_m7 (List.mem_of_getElem? (i := 231) rfl) rfl
theorem wm_1261 : (.methodLink RJ0 505 yJ0_length_8abf5 : Cond) ∈ en_wl := en_m3 (List.mem_of_getElem? (i := 23) rfl) rfl
theorem wm_1262 : (.code yJ1_indexOf_4cfef cJ1_indexOf_4cfef 4 (some .int) : Cond) ∈ en_wl := en_m3 (List.mem_of_getElem? (i := 26) rfl) rfl
theorem wm_1263 : (.static yJ1_indexOf_4cfef : Cond) ∈ en_wl := en_m3 (List.mem_of_getElem? (i := 25) rfl) rfl
theorem wm_1264 : (.initialized RJ1 : Cond) ∈ en_wl := en_m1 (List.mem_of_getElem? (i := 18) rfl) rfl
theorem wm_1265 : (.methodLink RJ0 637 yJ1_indexOf_4cfef : Cond) ∈ en_wl := en_m3 (List.mem_of_getElem? (i := 24) rfl) rfl
theorem wm_1266 : (.fieldLink RJ0 38 "java/lang/String" "COMPACT_STRINGS" "Z" : Cond) ∈ en_wl := en_m1 (List.mem_of_getElem? (i := 106) rfl) rfl
theorem wm_1267 : (.fieldLink RJ0 15 "java/lang/String" "coder" "B" : Cond) ∈ en_wl := en_m7 (List.mem_of_getElem? (i := 232) rfl) rfl
theorem wm_1268 : (.code yJ0_coder_7d493 cJ0_coder_7d493 1 (some .byte) : Cond) ∈ en_wl := en_m1 (List.mem_of_getElem? (i := 105) rfl) rfl
theorem wm_1269 : (.instanceMethod yJ0_coder_7d493 : Cond) ∈ en_wl := en_m1 (List.mem_of_getElem? (i := 103) rfl) rfl
theorem wm_1270 : (.selects RJ0 yJ0_coder_7d493 yJ0_coder_7d493 : Cond) ∈ en_wl := en_m1 (List.mem_of_getElem? (i := 104) rfl) rfl
theorem wm_1271 : (.methodLink RJ0 335 yJ0_coder_7d493 : Cond) ∈ en_wl := en_m1 (List.mem_of_getElem? (i := 102) rfl) rfl
theorem wm_1272 : (.code yJ1_canEncode_9a6ad cJ1_canEncode_9a6ad 1 (some .boolean) : Cond) ∈ en_wl := en_m3 (List.mem_of_getElem? (i := 29) rfl) rfl
theorem wm_1273 : (.static yJ1_canEncode_9a6ad : Cond) ∈ en_wl := en_m3 (List.mem_of_getElem? (i := 28) rfl) rfl
theorem wm_1274 : (.methodLink RJ1 88 yJ1_canEncode_9a6ad : Cond) ∈ en_wl := en_m3 (List.mem_of_getElem? (i := 27) rfl) rfl
theorem wm_1275 : (.methodLink RJ1 92 yJ9_max_7cf53 : Cond) ∈ en_wl := en_m3 (List.mem_of_getElem? (i := 30) rfl) rfl
theorem wm_1276 : (.methodLink RJ1 38 yJ9_min_7cf53 : Cond) ∈ en_wl := en_m3 (List.mem_of_getElem? (i := 33) rfl) rfl
theorem wm_1277 : (.code yJ1_indexOfChar_4cfef cJ1_indexOfChar_4cfef 6 (some .int) : Cond) ∈ en_wl := en_m3 (List.mem_of_getElem? (i := 38) rfl) rfl
theorem wm_1278 : (.static yJ1_indexOfChar_4cfef : Cond) ∈ en_wl := en_m3 (List.mem_of_getElem? (i := 37) rfl) rfl
theorem wm_1279 : (.methodLink RJ1 95 yJ1_indexOfChar_4cfef : Cond) ∈ en_wl := en_m3 (List.mem_of_getElem? (i := 36) rfl) rfl
theorem wm_1280 : (.constant RJ6 265 1431655765 : Cond) ∈ en_wl := en_m3 (List.mem_of_getElem? (i := 137) rfl) rfl
theorem wm_1281 : (.constant RJ6 266 858993459 : Cond) ∈ en_wl := en_m3 (List.mem_of_getElem? (i := 138) rfl) rfl
theorem wm_1282 : (.constant RJ6 267 252645135 : Cond) ∈ en_wl := en_m3 (List.mem_of_getElem? (i := 139) rfl) rfl
theorem wm_1283 : (.constant RJ6 264 65536 : Cond) ∈ en_wl := en_m7 (List.mem_of_getElem? (i := 151) rfl) rfl
theorem wm_1284 : (.arrayClass .int : Cond) ∈ en_wl := en_m1 (List.mem_of_getElem? (i := 52) rfl) rfl
theorem wm_1285 : (.arrayClass .byte : Cond) ∈ en_wl := en_m1 (List.mem_of_getElem? (i := 131) rfl) rfl
theorem wm_1286 : (.arrayClass .boolean : Cond) ∈ en_wl := en_m2 (List.mem_of_getElem? (i := 20) rfl) rfl
theorem wm_1287 : (.arrayClass .long : Cond) ∈ en_wl := en_m7 (List.mem_of_getElem? (i := 213) rfl) rfl
theorem wm_1288 : (.initialized "java/lang/System" : Cond) ∈ en_wl := en_m1 (List.mem_of_getElem? (i := 16) rfl) rfl
theorem wm_1289 : (.instanceMethod objectInit : Cond) ∈ en_wl := en_m1 (List.mem_of_getElem? (i := 33) rfl) rfl
theorem wm_1290 : (.code objectInit ⟨#[0xb1]⟩ 1 none : Cond) ∈ en_wl := en_m1 (List.mem_of_getElem? (i := 34) rfl) rfl
theorem wm_1291 : (.native arraycopyName : Cond) ∈ en_wl := en_m2 (List.mem_of_getElem? (i := 205) rfl) rfl
theorem wm_1292 : (.static arraycopyName : Cond) ∈ en_wl := en_m2 (List.mem_of_getElem? (i := 204) rfl) rfl
theorem wm_1293 : (.arrayOver (.object RX7) : Cond) ∈ lw_tbl := en_t1 (List.mem_of_getElem? (i := 232) rfl)
theorem wm_1294 : (.arrayOver (.array .int) : Cond) ∈ lw_tbl := en_t2 (List.mem_of_getElem? (i := 47) rfl)
set_option maxRecDepth 20000 in
theorem en_u0 : ∀ w ∈ u_ws RX0 TX0 3, w ∈ en_wl := fun w h => List.mem_filter.mpr ⟨(by decide +kernel : ∀ w ∈ u_ws RX0 TX0 3, w ∈ lw_tbl) w h, (by decide +kernel : ∀ w ∈ u_ws RX0 TX0 3, goodWord w = true) w h⟩
set_option maxRecDepth 20000 in
theorem en_u1 : ∀ w ∈ u_ws RX1 TX1 2, w ∈ en_wl := fun w h => List.mem_filter.mpr ⟨(by decide +kernel : ∀ w ∈ u_ws RX1 TX1 2, w ∈ lw_tbl) w h, (by decide +kernel : ∀ w ∈ u_ws RX1 TX1 2, goodWord w = true) w h⟩
set_option maxRecDepth 20000 in
theorem en_u2 : ∀ w ∈ u_ws RX2 TX2 3, w ∈ en_wl := fun w h => List.mem_filter.mpr ⟨(by decide +kernel : ∀ w ∈ u_ws RX2 TX2 3, w ∈ lw_tbl) w h, (by decide +kernel : ∀ w ∈ u_ws RX2 TX2 3, goodWord w = true) w h⟩
set_option maxRecDepth 20000 in
theorem en_u3 : ∀ w ∈ u_ws RX3 TX3 3, w ∈ en_wl := fun w h => List.mem_filter.mpr ⟨(by decide +kernel : ∀ w ∈ u_ws RX3 TX3 3, w ∈ lw_tbl) w h, (by decide +kernel : ∀ w ∈ u_ws RX3 TX3 3, goodWord w = true) w h⟩
set_option maxRecDepth 20000 in
theorem en_u4 : ∀ w ∈ u_ws RX4 TX4 3, w ∈ en_wl := fun w h => List.mem_filter.mpr ⟨(by decide +kernel : ∀ w ∈ u_ws RX4 TX4 3, w ∈ lw_tbl) w h, (by decide +kernel : ∀ w ∈ u_ws RX4 TX4 3, goodWord w = true) w h⟩
set_option maxRecDepth 20000 in
theorem en_u5 : ∀ w ∈ u_ws RX5 TX5 7, w ∈ en_wl := fun w h => List.mem_filter.mpr ⟨(by decide +kernel : ∀ w ∈ u_ws RX5 TX5 7, w ∈ lw_tbl) w h, (by decide +kernel : ∀ w ∈ u_ws RX5 TX5 7, goodWord w = true) w h⟩
set_option maxRecDepth 20000 in
theorem en_u6 : ∀ w ∈ u_ws RX6 TX6 7, w ∈ en_wl := fun w h => List.mem_filter.mpr ⟨(by decide +kernel : ∀ w ∈ u_ws RX6 TX6 7, w ∈ lw_tbl) w h, (by decide +kernel : ∀ w ∈ u_ws RX6 TX6 7, goodWord w = true) w h⟩
set_option maxRecDepth 20000 in
theorem en_u7 : ∀ w ∈ u_ws RX7 TX7 10, w ∈ en_wl := fun w h => List.mem_filter.mpr ⟨(by decide +kernel : ∀ w ∈ u_ws RX7 TX7 10, w ∈ lw_tbl) w h, (by decide +kernel : ∀ w ∈ u_ws RX7 TX7 10, goodWord w = true) w h⟩
set_option maxRecDepth 20000 in
theorem en_u8 : ∀ w ∈ u_ws RX8 TX8 2, w ∈ en_wl := fun w h => List.mem_filter.mpr ⟨(by decide +kernel : ∀ w ∈ u_ws RX8 TX8 2, w ∈ lw_tbl) w h, (by decide +kernel : ∀ w ∈ u_ws RX8 TX8 2, goodWord w = true) w h⟩
set_option maxRecDepth 20000 in
theorem en_u9 : ∀ w ∈ u_ws RX9 TX9 2, w ∈ en_wl := fun w h => List.mem_filter.mpr ⟨(by decide +kernel : ∀ w ∈ u_ws RX9 TX9 2, w ∈ lw_tbl) w h, (by decide +kernel : ∀ w ∈ u_ws RX9 TX9 2, goodWord w = true) w h⟩
set_option maxRecDepth 20000 in
theorem en_u10 : ∀ w ∈ u_ws RX10 TX10 7, w ∈ en_wl := fun w h => List.mem_filter.mpr ⟨(by decide +kernel : ∀ w ∈ u_ws RX10 TX10 7, w ∈ lw_tbl) w h, (by decide +kernel : ∀ w ∈ u_ws RX10 TX10 7, goodWord w = true) w h⟩
set_option maxRecDepth 20000 in
theorem en_u11 : ∀ w ∈ u_ws RX11 TX11 14, w ∈ en_wl := fun w h => List.mem_filter.mpr ⟨(by decide +kernel : ∀ w ∈ u_ws RX11 TX11 14, w ∈ lw_tbl) w h, (by decide +kernel : ∀ w ∈ u_ws RX11 TX11 14, goodWord w = true) w h⟩
set_option maxRecDepth 20000 in
theorem en_u12 : ∀ w ∈ u_ws RX12 TX12 44, w ∈ en_wl := fun w h => List.mem_filter.mpr ⟨(by decide +kernel : ∀ w ∈ u_ws RX12 TX12 44, w ∈ lw_tbl) w h, (by decide +kernel : ∀ w ∈ u_ws RX12 TX12 44, goodWord w = true) w h⟩
