/-! the words of the tables, each a member of one list (by program: wip/gen/words.py) -/
def wsU : List Cond := lw_tbl.filter goodWord
theorem wsU_good : GoodIn wsU wsU := fun w h => ⟨h, good_of_word (List.mem_filter.mp h).2⟩
def isNest : Cond → Bool
  | .methodLinkNest _ _ _ _ => true
  | .fieldLinkNest _ _ _ _ _ _ => true
  | _ => false
def nsU : List Cond := tables_1.filter isNest
theorem tm1 {w : Cond} (h : w ∈ tables_1_1) : w ∈ tables_1 := List.mem_append_left _ h
theorem tm2 {w : Cond} (h : w ∈ tables_1_2) : w ∈ tables_1 := List.mem_append_right _ (List.mem_append_left _ h)
theorem tm3 {w : Cond} (h : w ∈ tables_1_3) : w ∈ tables_1 := List.mem_append_right _ (List.mem_append_right _ (List.mem_append_left _ h))
theorem tm4 {w : Cond} (h : w ∈ tables_1_4) : w ∈ tables_1 := List.mem_append_right _ (List.mem_append_right _ (List.mem_append_right _ (List.mem_append_left _ h)))
theorem tm5 {w : Cond} (h : w ∈ tables_1_5) : w ∈ tables_1 := List.mem_append_right _ (List.mem_append_right _ (List.mem_append_right _ (List.mem_append_right _ (List.mem_append_left _ h))))
theorem tm6 {w : Cond} (h : w ∈ tables_1_6) : w ∈ tables_1 := List.mem_append_right _ (List.mem_append_right _ (List.mem_append_right _ (List.mem_append_right _ (List.mem_append_right _ (h)))))
theorem wu_t {w : Cond} (h : w ∈ tables_1) (g : goodWord w = true) : w ∈ wsU := List.mem_filter.mpr ⟨List.mem_append_right _ h, g⟩
theorem wu_p {w : Cond} (h : w ∈ k2_sels lw_privs) (g : goodWord w = true) : w ∈ wsU := List.mem_filter.mpr ⟨List.mem_append_left _ h, g⟩
theorem ns_t {w : Cond} (h : w ∈ tables_1) (g : isNest w = true) : w ∈ nsU := List.mem_filter.mpr ⟨h, g⟩
theorem win_L : Cond.initialized RL ∈ wsU := wu_t (tm1 (List.mem_of_getElem? (i := 0) (by decide +kernel))) rfl
theorem win_X10 : Cond.initialized RX10 ∈ wsU := wu_t (tm1 (List.mem_of_getElem? (i := 1) (by decide +kernel))) rfl
theorem win_X8 : Cond.initialized RX8 ∈ wsU := wu_t (tm1 (List.mem_of_getElem? (i := 2) (by decide +kernel))) rfl
theorem win_X3 : Cond.initialized RX3 ∈ wsU := wu_t (tm1 (List.mem_of_getElem? (i := 3) (by decide +kernel))) rfl
theorem win_X0 : Cond.initialized RX0 ∈ wsU := wu_t (tm1 (List.mem_of_getElem? (i := 4) (by decide +kernel))) rfl
theorem win_X2 : Cond.initialized RX2 ∈ wsU := wu_t (tm1 (List.mem_of_getElem? (i := 5) (by decide +kernel))) rfl
theorem win_X9 : Cond.initialized RX9 ∈ wsU := wu_t (tm1 (List.mem_of_getElem? (i := 6) (by decide +kernel))) rfl
theorem win_X7 : Cond.initialized RX7 ∈ wsU := wu_t (tm1 (List.mem_of_getElem? (i := 7) (by decide +kernel))) rfl
theorem win_X1 : Cond.initialized RX1 ∈ wsU := wu_t (tm1 (List.mem_of_getElem? (i := 8) (by decide +kernel))) rfl
theorem win_X4 : Cond.initialized RX4 ∈ wsU := wu_t (tm1 (List.mem_of_getElem? (i := 9) (by decide +kernel))) rfl
theorem win_X6 : Cond.initialized RX6 ∈ wsU := wu_t (tm1 (List.mem_of_getElem? (i := 10) (by decide +kernel))) rfl
theorem win_X5 : Cond.initialized RX5 ∈ wsU := wu_t (tm1 (List.mem_of_getElem? (i := 11) (by decide +kernel))) rfl
theorem win_X11 : Cond.initialized RX11 ∈ wsU := wu_t (tm1 (List.mem_of_getElem? (i := 12) (by decide +kernel))) rfl
theorem win_J0 : Cond.initialized RJ0 ∈ wsU := wu_t (tm1 (List.mem_of_getElem? (i := 13) (by decide +kernel))) rfl
theorem win_J1 : Cond.initialized RJ1 ∈ wsU := wu_t (tm1 (List.mem_of_getElem? (i := 14) (by decide +kernel))) rfl
theorem win_J3 : Cond.initialized RJ3 ∈ wsU := wu_t (tm1 (List.mem_of_getElem? (i := 15) (by decide +kernel))) rfl
theorem win_J2 : Cond.initialized RJ2 ∈ wsU := wu_t (tm1 (List.mem_of_getElem? (i := 16) (by decide +kernel))) rfl
theorem win_J7 : Cond.initialized RJ7 ∈ wsU := wu_t (tm1 (List.mem_of_getElem? (i := 17) (by decide +kernel))) rfl
theorem win_J9 : Cond.initialized RJ9 ∈ wsU := wu_t (tm1 (List.mem_of_getElem? (i := 18) (by decide +kernel))) rfl
theorem win_J10 : Cond.initialized RJ10 ∈ wsU := wu_t (tm1 (List.mem_of_getElem? (i := 19) (by decide +kernel))) rfl
theorem win_J13 : Cond.initialized RJ13 ∈ wsU := wu_t (tm1 (List.mem_of_getElem? (i := 20) (by decide +kernel))) rfl
theorem wml_L_9 : Cond.methodLink RL 9 yX10_init ∈ wsU := wu_t (tm1 (List.mem_of_getElem? (i := 23) (by decide +kernel))) rfl
theorem wim_X10_init : Cond.instanceMethod yX10_init ∈ wsU := wu_t (tm1 (List.mem_of_getElem? (i := 24) (by decide +kernel))) rfl
theorem wcd_X10_init : Cond.code yX10_init cX10_init 4 none ∈ wsU := wu_t (tm1 (List.mem_of_getElem? (i := 25) (rfl))) rfl
theorem wml_X10_3 : Cond.methodLink RX10 3 ⟨"java/lang/Object", "<init>", "()V"⟩ ∈ wsU := wu_t (tm1 (List.mem_of_getElem? (i := 26) (by decide +kernel))) rfl
theorem wmn_X10_11 : Cond.methodLinkNest RX10 11 yX8_init RX10 ∈ nsU := ns_t (tm1 (List.mem_of_getElem? (i := 32) (by decide +kernel))) rfl
theorem wim_X8_init : Cond.instanceMethod yX8_init ∈ wsU := wu_t (tm1 (List.mem_of_getElem? (i := 33) (by decide +kernel))) rfl
theorem wcd_X8_init : Cond.code yX8_init cX8_init 1 none ∈ wsU := wu_t (tm1 (List.mem_of_getElem? (i := 34) (rfl))) rfl
theorem wml_X8_3 : Cond.methodLink RX8 3 ⟨"java/lang/Object", "<init>", "()V"⟩ ∈ wsU := wu_t (tm1 (List.mem_of_getElem? (i := 35) (by decide +kernel))) rfl
theorem wfl_X8_11 : Cond.fieldLink RX8 11 RX8 "stack" "[I" ∈ wsU := wu_t (tm1 (List.mem_of_getElem? (i := 36) (by decide +kernel))) rfl
theorem wfl_X8_15 : Cond.fieldLink RX8 15 RX8 "bounds" "[I" ∈ wsU := wu_t (tm1 (List.mem_of_getElem? (i := 37) (by decide +kernel))) rfl
theorem wfl_X8_20 : Cond.fieldLink RX8 20 RX8 "code" "[I" ∈ wsU := wu_t (tm1 (List.mem_of_getElem? (i := 38) (by decide +kernel))) rfl
theorem wsc_X8_java_lang_Object : Cond.superclass RX8 "java/lang/Object" ∈ wsU := wu_t (tm1 (List.mem_of_getElem? (i := 45) (by decide +kernel))) rfl
theorem wmn_X10_14 : Cond.methodLinkNest RX10 14 yX3_init RX10 ∈ nsU := ns_t (tm1 (List.mem_of_getElem? (i := 50) (by decide +kernel))) rfl
theorem wim_X3_init : Cond.instanceMethod yX3_init ∈ wsU := wu_t (tm1 (List.mem_of_getElem? (i := 51) (by decide +kernel))) rfl
theorem wcd_X3_init : Cond.code yX3_init cX3_init 1 none ∈ wsU := wu_t (tm1 (List.mem_of_getElem? (i := 52) (rfl))) rfl
theorem wml_X3_1 : Cond.methodLink RX3 1 ⟨"java/lang/Object", "<init>", "()V"⟩ ∈ wsU := wu_t (tm1 (List.mem_of_getElem? (i := 53) (by decide +kernel))) rfl
theorem wsc_X3_java_lang_Object : Cond.superclass RX3 "java/lang/Object" ∈ wsU := wu_t (tm1 (List.mem_of_getElem? (i := 54) (by decide +kernel))) rfl
theorem wmn_X10_17 : Cond.methodLinkNest RX10 17 yX0_init RX10 ∈ nsU := ns_t (tm1 (List.mem_of_getElem? (i := 57) (by decide +kernel))) rfl
theorem wim_X0_init : Cond.instanceMethod yX0_init ∈ wsU := wu_t (tm1 (List.mem_of_getElem? (i := 58) (by decide +kernel))) rfl
theorem wcd_X0_init : Cond.code yX0_init cX0_init 1 none ∈ wsU := wu_t (tm1 (List.mem_of_getElem? (i := 59) (rfl))) rfl
theorem wmn_X0_1 : Cond.methodLinkNest RX0 1 yX3_init RX10 ∈ nsU := ns_t (tm1 (List.mem_of_getElem? (i := 60) (by decide +kernel))) rfl
theorem wsc_X0_X3 : Cond.superclass RX0 RX3 ∈ wsU := wu_t (tm1 (List.mem_of_getElem? (i := 61) (by decide +kernel))) rfl
theorem wmn_X10_20 : Cond.methodLinkNest RX10 20 yX2_init RX10 ∈ nsU := ns_t (tm1 (List.mem_of_getElem? (i := 64) (by decide +kernel))) rfl
theorem wim_X2_init : Cond.instanceMethod yX2_init ∈ wsU := wu_t (tm1 (List.mem_of_getElem? (i := 65) (by decide +kernel))) rfl
theorem wcd_X2_init : Cond.code yX2_init cX2_init 1 none ∈ wsU := wu_t (tm1 (List.mem_of_getElem? (i := 66) (rfl))) rfl
theorem wmn_X2_1 : Cond.methodLinkNest RX2 1 yX3_init RX10 ∈ nsU := ns_t (tm1 (List.mem_of_getElem? (i := 67) (by decide +kernel))) rfl
theorem wsc_X2_X3 : Cond.superclass RX2 RX3 ∈ wsU := wu_t (tm1 (List.mem_of_getElem? (i := 68) (by decide +kernel))) rfl
theorem wmn_X10_23 : Cond.methodLinkNest RX10 23 yX9_init RX10 ∈ nsU := ns_t (tm1 (List.mem_of_getElem? (i := 71) (by decide +kernel))) rfl
theorem wim_X9_init : Cond.instanceMethod yX9_init ∈ wsU := wu_t (tm1 (List.mem_of_getElem? (i := 72) (by decide +kernel))) rfl
theorem wcd_X9_init : Cond.code yX9_init cX9_init 1 none ∈ wsU := wu_t (tm1 (List.mem_of_getElem? (i := 73) (rfl))) rfl
theorem wmn_X9_1 : Cond.methodLinkNest RX9 1 yX0_init RX10 ∈ nsU := ns_t (tm1 (List.mem_of_getElem? (i := 74) (by decide +kernel))) rfl
theorem wsc_X9_X0 : Cond.superclass RX9 RX0 ∈ wsU := wu_t (tm1 (List.mem_of_getElem? (i := 75) (by decide +kernel))) rfl
theorem wmn_X10_26 : Cond.methodLinkNest RX10 26 yX7_init RX10 ∈ nsU := ns_t (tm1 (List.mem_of_getElem? (i := 78) (by decide +kernel))) rfl
theorem wim_X7_init : Cond.instanceMethod yX7_init ∈ wsU := wu_t (tm1 (List.mem_of_getElem? (i := 79) (by decide +kernel))) rfl
theorem wcd_X7_init : Cond.code yX7_init cX7_init 1 none ∈ wsU := wu_t (tm1 (List.mem_of_getElem? (i := 80) (rfl))) rfl
theorem wmn_X7_1 : Cond.methodLinkNest RX7 1 yX2_init RX10 ∈ nsU := ns_t (tm1 (List.mem_of_getElem? (i := 81) (by decide +kernel))) rfl
theorem wsc_X7_X2 : Cond.superclass RX7 RX2 ∈ wsU := wu_t (tm1 (List.mem_of_getElem? (i := 82) (by decide +kernel))) rfl
theorem wmn_X10_29 : Cond.methodLinkNest RX10 29 yX1_init RX10 ∈ nsU := ns_t (tm1 (List.mem_of_getElem? (i := 85) (by decide +kernel))) rfl
theorem wim_X1_init : Cond.instanceMethod yX1_init ∈ wsU := wu_t (tm1 (List.mem_of_getElem? (i := 86) (by decide +kernel))) rfl
theorem wcd_X1_init : Cond.code yX1_init cX1_init 1 none ∈ wsU := wu_t (tm1 (List.mem_of_getElem? (i := 87) (rfl))) rfl
theorem wmn_X1_1 : Cond.methodLinkNest RX1 1 yX3_init RX10 ∈ nsU := ns_t (tm1 (List.mem_of_getElem? (i := 88) (by decide +kernel))) rfl
theorem wsc_X1_X3 : Cond.superclass RX1 RX3 ∈ wsU := wu_t (tm1 (List.mem_of_getElem? (i := 89) (by decide +kernel))) rfl
theorem wmn_X10_32 : Cond.methodLinkNest RX10 32 yX4_init RX10 ∈ nsU := ns_t (tm1 (List.mem_of_getElem? (i := 92) (by decide +kernel))) rfl
theorem wim_X4_init : Cond.instanceMethod yX4_init ∈ wsU := wu_t (tm1 (List.mem_of_getElem? (i := 93) (by decide +kernel))) rfl
theorem wcd_X4_init : Cond.code yX4_init cX4_init 1 none ∈ wsU := wu_t (tm1 (List.mem_of_getElem? (i := 94) (rfl))) rfl
theorem wml_X4_3 : Cond.methodLink RX4 3 ⟨"java/lang/Object", "<init>", "()V"⟩ ∈ wsU := wu_t (tm1 (List.mem_of_getElem? (i := 95) (by decide +kernel))) rfl
theorem wfl_X4_9 : Cond.fieldLink RX4 9 RX4 "tape" "[I" ∈ wsU := wu_t (tm1 (List.mem_of_getElem? (i := 96) (by decide +kernel))) rfl
theorem wfl_X4_15 : Cond.fieldLink RX4 15 RX4 "code" "[I" ∈ wsU := wu_t (tm1 (List.mem_of_getElem? (i := 97) (by decide +kernel))) rfl
theorem wfn_X8_23 : Cond.fieldLinkNest RX8 23 RX4 "code" "[I" RX10 ∈ nsU := ns_t (tm1 (List.mem_of_getElem? (i := 98) (by decide +kernel))) rfl
theorem wfl_X4_18 : Cond.fieldLink RX4 18 RX4 "bounds" "[I" ∈ wsU := wu_t (tm1 (List.mem_of_getElem? (i := 99) (by decide +kernel))) rfl
theorem wfn_X8_34 : Cond.fieldLinkNest RX8 34 RX4 "bounds" "[I" RX10 ∈ nsU := ns_t (tm1 (List.mem_of_getElem? (i := 100) (by decide +kernel))) rfl
theorem wfl_X4_21 : Cond.fieldLink RX4 21 RX4 "size" "I" ∈ wsU := wu_t (tm1 (List.mem_of_getElem? (i := 101) (by decide +kernel))) rfl
theorem wfn_X10_84 : Cond.fieldLinkNest RX10 84 RX4 "size" "I" RX10 ∈ nsU := ns_t (tm1 (List.mem_of_getElem? (i := 102) (by decide +kernel))) rfl
theorem wfn_X8_24 : Cond.fieldLinkNest RX8 24 RX4 "steps" "I" RX10 ∈ nsU := ns_t (tm1 (List.mem_of_getElem? (i := 103) (by decide +kernel))) rfl
theorem wfl_X4_25 : Cond.fieldLink RX4 25 RX4 "steps" "I" ∈ wsU := wu_t (tm1 (List.mem_of_getElem? (i := 104) (by decide +kernel))) rfl
theorem wfl_X4_41 : Cond.fieldLink RX4 41 RX4 "token" "I" ∈ wsU := wu_t (tm1 (List.mem_of_getElem? (i := 105) (by decide +kernel))) rfl
theorem wfl_X4_63 : Cond.fieldLink RX4 63 RX4 "worth" "I" ∈ wsU := wu_t (tm1 (List.mem_of_getElem? (i := 106) (by decide +kernel))) rfl
theorem wfn_X10_110 : Cond.fieldLinkNest RX10 110 RX4 "start" "I" RX10 ∈ nsU := ns_t (tm1 (List.mem_of_getElem? (i := 107) (by decide +kernel))) rfl
theorem wfl_X4_66 : Cond.fieldLink RX4 66 RX4 "start" "I" ∈ wsU := wu_t (tm1 (List.mem_of_getElem? (i := 108) (by decide +kernel))) rfl
theorem wfl_X4_28 : Cond.fieldLink RX4 28 RX4 "next" "I" ∈ wsU := wu_t (tm1 (List.mem_of_getElem? (i := 109) (by decide +kernel))) rfl
theorem wsc_X4_java_lang_Object : Cond.superclass RX4 "java/lang/Object" ∈ wsU := wu_t (tm1 (List.mem_of_getElem? (i := 128) (by decide +kernel))) rfl
theorem wmn_X10_55 : Cond.methodLinkNest RX10 55 yX6_init RX10 ∈ nsU := ns_t (tm1 (List.mem_of_getElem? (i := 132) (by decide +kernel))) rfl
theorem wim_X6_init : Cond.instanceMethod yX6_init ∈ wsU := wu_t (tm1 (List.mem_of_getElem? (i := 133) (by decide +kernel))) rfl
theorem wcd_X6_init : Cond.code yX6_init cX6_init 1 none ∈ wsU := wu_t (tm1 (List.mem_of_getElem? (i := 134) (rfl))) rfl
theorem wml_X6_3 : Cond.methodLink RX6 3 ⟨"java/lang/Object", "<init>", "()V"⟩ ∈ wsU := wu_t (tm1 (List.mem_of_getElem? (i := 135) (by decide +kernel))) rfl
theorem wfl_X6_9 : Cond.fieldLink RX6 9 RX6 "numbers" "[I" ∈ wsU := wu_t (tm1 (List.mem_of_getElem? (i := 136) (by decide +kernel))) rfl
theorem wfn_X10_156 : Cond.fieldLinkNest RX10 156 RX6 "numbers" "[I" RX10 ∈ nsU := ns_t (tm1 (List.mem_of_getElem? (i := 137) (by decide +kernel))) rfl
theorem wfl_X6_15 : Cond.fieldLink RX6 15 RX6 "sort" "I" ∈ wsU := wu_t (tm1 (List.mem_of_getElem? (i := 138) (by decide +kernel))) rfl
theorem wfn_X10_244 : Cond.fieldLinkNest RX10 244 RX6 "sort" "I" RX10 ∈ nsU := ns_t (tm1 (List.mem_of_getElem? (i := 139) (by decide +kernel))) rfl
theorem wfl_X6_19 : Cond.fieldLink RX6 19 RX6 "size" "I" ∈ wsU := wu_t (tm1 (List.mem_of_getElem? (i := 140) (by decide +kernel))) rfl
theorem wfn_X10_155 : Cond.fieldLinkNest RX10 155 RX6 "size" "I" RX10 ∈ nsU := ns_t (tm1 (List.mem_of_getElem? (i := 141) (by decide +kernel))) rfl
theorem wsc_X6_java_lang_Object : Cond.superclass RX6 "java/lang/Object" ∈ wsU := wu_t (tm1 (List.mem_of_getElem? (i := 148) (by decide +kernel))) rfl
theorem wmn_X10_58 : Cond.methodLinkNest RX10 58 yX5_init RX10 ∈ nsU := ns_t (tm1 (List.mem_of_getElem? (i := 151) (by decide +kernel))) rfl
theorem wim_X5_init : Cond.instanceMethod yX5_init ∈ wsU := wu_t (tm1 (List.mem_of_getElem? (i := 152) (by decide +kernel))) rfl
theorem wcd_X5_init : Cond.code yX5_init cX5_init 3 none ∈ wsU := wu_t (tm1 (List.mem_of_getElem? (i := 153) (rfl))) rfl
theorem wml_X5_3 : Cond.methodLink RX5 3 ⟨"java/lang/Object", "<init>", "()V"⟩ ∈ wsU := wu_t (tm1 (List.mem_of_getElem? (i := 154) (by decide +kernel))) rfl
theorem wfl_X5_31 : Cond.fieldLink RX5 31 RX5 "texts" "[LUnderlayOfUnspoken$Text;" ∈ wsU := wu_t (tm1 (List.mem_of_getElem? (i := 157) (by decide +kernel))) rfl
theorem wfl_X5_35 : Cond.fieldLink RX5 35 RX5 "kindTable" "[LUnderlayOfUnspoken$Person;" ∈ wsU := wu_t (tm1 (List.mem_of_getElem? (i := 158) (by decide +kernel))) rfl
theorem wfl_X5_9 : Cond.fieldLink RX5 9 RX5 "thick" "[I" ∈ wsU := wu_t (tm1 (List.mem_of_getElem? (i := 159) (by decide +kernel))) rfl
theorem wfn_X10_95 : Cond.fieldLinkNest RX10 95 RX5 "thick" "[I" RX10 ∈ nsU := ns_t (tm1 (List.mem_of_getElem? (i := 160) (by decide +kernel))) rfl
theorem wfl_X5_17 : Cond.fieldLink RX5 17 RX5 "traits" "[[I" ∈ wsU := wu_t (tm1 (List.mem_of_getElem? (i := 161) (by decide +kernel))) rfl
theorem wfn_X10_127 : Cond.fieldLinkNest RX10 127 RX5 "traits" "[[I" RX10 ∈ nsU := ns_t (tm1 (List.mem_of_getElem? (i := 162) (by decide +kernel))) rfl
theorem wfl_X5_22 : Cond.fieldLink RX5 22 RX5 "names" "[I" ∈ wsU := wu_t (tm1 (List.mem_of_getElem? (i := 163) (by decide +kernel))) rfl
theorem wfl_X5_25 : Cond.fieldLink RX5 25 RX5 "costs" "[I" ∈ wsU := wu_t (tm1 (List.mem_of_getElem? (i := 164) (by decide +kernel))) rfl
theorem wfl_X5_28 : Cond.fieldLink RX5 28 RX5 "sums" "[I" ∈ wsU := wu_t (tm1 (List.mem_of_getElem? (i := 165) (by decide +kernel))) rfl
theorem wfn_X10_71 : Cond.fieldLinkNest RX10 71 RX5 "people" "I" RX10 ∈ nsU := ns_t (tm1 (List.mem_of_getElem? (i := 166) (by decide +kernel))) rfl
theorem wfl_X5_45 : Cond.fieldLink RX5 45 RX5 "people" "I" ∈ wsU := wu_t (tm1 (List.mem_of_getElem? (i := 167) (by decide +kernel))) rfl
theorem wfn_X10_74 : Cond.fieldLinkNest RX10 74 RX5 "day" "I" RX10 ∈ nsU := ns_t (tm1 (List.mem_of_getElem? (i := 168) (by decide +kernel))) rfl
theorem wfl_X5_49 : Cond.fieldLink RX5 49 RX5 "day" "I" ∈ wsU := wu_t (tm1 (List.mem_of_getElem? (i := 169) (by decide +kernel))) rfl
theorem wfl_X5_52 : Cond.fieldLink RX5 52 RX5 "law" "I" ∈ wsU := wu_t (tm1 (List.mem_of_getElem? (i := 170) (by decide +kernel))) rfl
theorem wfn_X10_81 : Cond.fieldLinkNest RX10 81 RX5 "law" "I" RX10 ∈ nsU := ns_t (tm1 (List.mem_of_getElem? (i := 171) (by decide +kernel))) rfl
theorem wfl_X5_143 : Cond.fieldLink RX5 143 RX5 "wanderer" "I" ∈ wsU := wu_t (tm1 (List.mem_of_getElem? (i := 172) (by decide +kernel))) rfl
theorem wfn_X10_232 : Cond.fieldLinkNest RX10 232 RX5 "wanderer" "I" RX10 ∈ nsU := ns_t (tm1 (List.mem_of_getElem? (i := 173) (by decide +kernel))) rfl
theorem wsc_X5_java_lang_Object : Cond.superclass RX5 "java/lang/Object" ∈ wsU := wu_t (tm1 (List.mem_of_getElem? (i := 196) (by decide +kernel))) rfl
theorem wfl_X10_33 : Cond.fieldLink RX10 33 RX10 "reader" "LUnderlayOfUnspoken$Reader;" ∈ wsU := wu_t (tm1 (List.mem_of_getElem? (i := 197) (by decide +kernel))) rfl
theorem wfl_X10_37 : Cond.fieldLink RX10 37 RX10 "texts" "[LUnderlayOfUnspoken$Text;" ∈ wsU := wu_t (tm1 (List.mem_of_getElem? (i := 198) (by decide +kernel))) rfl
theorem wfl_X10_45 : Cond.fieldLink RX10 45 RX10 "kindTable" "[LUnderlayOfUnspoken$Person;" ∈ wsU := wu_t (tm1 (List.mem_of_getElem? (i := 199) (by decide +kernel))) rfl
theorem wfl_X10_51 : Cond.fieldLink RX10 51 RX10 "sheets" "[LUnderlayOfUnspoken$Sheet;" ∈ wsU := wu_t (tm1 (List.mem_of_getElem? (i := 200) (by decide +kernel))) rfl
theorem wfl_X10_61 : Cond.fieldLink RX10 61 RX10 "now" "LUnderlayOfUnspoken$Room;" ∈ wsU := wu_t (tm1 (List.mem_of_getElem? (i := 201) (by decide +kernel))) rfl
theorem wfl_X10_65 : Cond.fieldLink RX10 65 RX10 "thought" "LUnderlayOfUnspoken$Room;" ∈ wsU := wu_t (tm1 (List.mem_of_getElem? (i := 202) (by decide +kernel))) rfl
theorem wfl_X10_68 : Cond.fieldLink RX10 68 RX10 "kept" "LUnderlayOfUnspoken$Room;" ∈ wsU := wu_t (tm1 (List.mem_of_getElem? (i := 203) (by decide +kernel))) rfl
theorem wfl_X10_240 : Cond.fieldLink RX10 240 RX10 "hasImage" "Z" ∈ wsU := wu_t (tm1 (List.mem_of_getElem? (i := 204) (by decide +kernel))) rfl
theorem wfl_X10_41 : Cond.fieldLink RX10 41 RX10 "textCount" "I" ∈ wsU := wu_t (tm1 (List.mem_of_getElem? (i := 205) (by decide +kernel))) rfl
theorem wsc_X10_java_lang_Object : Cond.superclass RX10 "java/lang/Object" ∈ wsU := wu_t (tm1 (List.mem_of_getElem? (i := 224) (by decide +kernel))) rfl
theorem wml_L_13 : Cond.methodLink RL 13 yX10_count ∈ wsU := wu_t (tm1 (List.mem_of_getElem? (i := 225) (by decide +kernel))) rfl
theorem wim_X10_count : Cond.instanceMethod yX10_count ∈ wsU := wu_t (tm1 (List.mem_of_getElem? (i := 226) (by decide +kernel))) rfl
theorem wse_X10_X10_count_X10_count : Cond.selects RX10 yX10_count yX10_count ∈ wsU := wu_t (tm1 (List.mem_of_getElem? (i := 227) (by decide +kernel))) rfl
theorem wcd_X10_count : Cond.code yX10_count cX10_count 2 (some FieldType.int) ∈ wsU := wu_t (tm1 (List.mem_of_getElem? (i := 228) (rfl))) rfl
theorem wmn_X10_77 : Cond.methodLinkNest RX10 77 yX5_total RX10 ∈ nsU := ns_t (tm1 (List.mem_of_getElem? (i := 229) (by decide +kernel))) rfl
theorem wim_X5_total : Cond.instanceMethod yX5_total ∈ wsU := wu_t (tm1 (List.mem_of_getElem? (i := 231) (by decide +kernel))) rfl
theorem wcd_X5_total : Cond.code yX5_total cX5_total 5 (some FieldType.int) ∈ wsU := wu_t (tm1 (List.mem_of_getElem? (i := 232) (rfl))) rfl
theorem wml_L_18 : Cond.methodLink RL 18 yX10_lay ∈ wsU := wu_t (tm1 (List.mem_of_getElem? (i := 233) (by decide +kernel))) rfl
theorem wim_X10_lay : Cond.instanceMethod yX10_lay ∈ wsU := wu_t (tm1 (List.mem_of_getElem? (i := 234) (by decide +kernel))) rfl
theorem wse_X10_X10_lay_X10_lay : Cond.selects RX10 yX10_lay yX10_lay ∈ wsU := wu_t (tm1 (List.mem_of_getElem? (i := 235) (by decide +kernel))) rfl
theorem wcd_X10_lay : Cond.code yX10_lay cX10_lay 4 (some FieldType.int) ∈ wsU := wu_t (tm1 (List.mem_of_getElem? (i := 236) (rfl))) rfl
theorem wml_X10_87 : Cond.methodLink RX10 87 yX10_isCell ∈ wsU := wu_t (tm1 (List.mem_of_getElem? (i := 237) (by decide +kernel))) rfl
theorem wst_X10_isCell : Cond.static yX10_isCell ∈ wsU := wu_t (tm1 (List.mem_of_getElem? (i := 238) (by decide +kernel))) rfl
theorem wcd_X10_isCell : Cond.code yX10_isCell cX10_isCell 1 (some FieldType.boolean) ∈ wsU := wu_t (tm1 (List.mem_of_getElem? (i := 239) (rfl))) rfl
theorem wml_X10_91 : Cond.methodLink RX10 91 yX10_within ∈ wsU := wu_t (tm2 (List.mem_of_getElem? (i := 0) (by decide +kernel))) rfl
theorem wst_X10_within : Cond.static yX10_within ∈ wsU := wu_t (tm2 (List.mem_of_getElem? (i := 1) (by decide +kernel))) rfl
theorem wcd_X10_within : Cond.code yX10_within cX10_within 3 (some FieldType.boolean) ∈ wsU := wu_t (tm2 (List.mem_of_getElem? (i := 2) (rfl))) rfl
theorem wml_L_23 : Cond.methodLink RL 23 yX10_under ∈ wsU := wu_t (tm2 (List.mem_of_getElem? (i := 3) (by decide +kernel))) rfl
theorem wim_X10_under : Cond.instanceMethod yX10_under ∈ wsU := wu_t (tm2 (List.mem_of_getElem? (i := 4) (by decide +kernel))) rfl
theorem wse_X10_X10_under_X10_under : Cond.selects RX10 yX10_under yX10_under ∈ wsU := wu_t (tm2 (List.mem_of_getElem? (i := 5) (by decide +kernel))) rfl
theorem wcd_X10_under : Cond.code yX10_under cX10_under 2 (some FieldType.int) ∈ wsU := wu_t (tm2 (List.mem_of_getElem? (i := 6) (rfl))) rfl
theorem wml_L_27 : Cond.methodLink RL 27 yX10_feed ∈ wsU := wu_t (tm2 (List.mem_of_getElem? (i := 7) (by decide +kernel))) rfl
theorem wim_X10_feed : Cond.instanceMethod yX10_feed ∈ wsU := wu_t (tm2 (List.mem_of_getElem? (i := 8) (by decide +kernel))) rfl
theorem wse_X10_X10_feed_X10_feed : Cond.selects RX10 yX10_feed yX10_feed ∈ wsU := wu_t (tm2 (List.mem_of_getElem? (i := 9) (by decide +kernel))) rfl
theorem wcd_X10_feed : Cond.code yX10_feed cX10_feed 7 (some FieldType.int) ∈ wsU := wu_t (tm2 (List.mem_of_getElem? (i := 10) (rfl))) rfl
theorem wml_X10_99 : Cond.methodLink RX10 99 yX10_isByte ∈ wsU := wu_t (tm2 (List.mem_of_getElem? (i := 11) (by decide +kernel))) rfl
theorem wst_X10_isByte : Cond.static yX10_isByte ∈ wsU := wu_t (tm2 (List.mem_of_getElem? (i := 12) (by decide +kernel))) rfl
theorem wcd_X10_isByte : Cond.code yX10_isByte cX10_isByte 1 (some FieldType.boolean) ∈ wsU := wu_t (tm2 (List.mem_of_getElem? (i := 13) (rfl))) rfl
theorem wmn_X10_102 : Cond.methodLinkNest RX10 102 yX4_append RX10 ∈ nsU := ns_t (tm2 (List.mem_of_getElem? (i := 14) (by decide +kernel))) rfl
theorem wim_X4_append : Cond.instanceMethod yX4_append ∈ wsU := wu_t (tm2 (List.mem_of_getElem? (i := 16) (by decide +kernel))) rfl
theorem wcd_X4_append : Cond.code yX4_append cX4_append 2 none ∈ wsU := wu_t (tm2 (List.mem_of_getElem? (i := 17) (rfl))) rfl
theorem wml_L_32 : Cond.methodLink RL 32 yX10_text ∈ wsU := wu_t (tm2 (List.mem_of_getElem? (i := 18) (by decide +kernel))) rfl
theorem wim_X10_text : Cond.instanceMethod yX10_text ∈ wsU := wu_t (tm2 (List.mem_of_getElem? (i := 19) (by decide +kernel))) rfl
theorem wse_X10_X10_text_X10_text : Cond.selects RX10 yX10_text yX10_text ∈ wsU := wu_t (tm2 (List.mem_of_getElem? (i := 20) (by decide +kernel))) rfl
theorem wcd_X10_text : Cond.code yX10_text cX10_text 2 (some FieldType.int) ∈ wsU := wu_t (tm2 (List.mem_of_getElem? (i := 21) (rfl))) rfl
theorem wmn_X10_106 : Cond.methodLinkNest RX10 106 yX4_readText RX10 ∈ nsU := ns_t (tm2 (List.mem_of_getElem? (i := 22) (by decide +kernel))) rfl
theorem wim_X4_readText : Cond.instanceMethod yX4_readText ∈ wsU := wu_t (tm2 (List.mem_of_getElem? (i := 24) (by decide +kernel))) rfl
theorem wcd_X4_readText : Cond.code yX4_readText cX4_readText 2 (some FieldType.boolean) ∈ wsU := wu_t (tm2 (List.mem_of_getElem? (i := 25) (rfl))) rfl
theorem wml_X4_31 : Cond.methodLink RX4 31 yX4_advance ∈ wsU := wu_t (tm2 (List.mem_of_getElem? (i := 26) (by decide +kernel))) rfl
theorem wim_X4_advance : Cond.instanceMethod yX4_advance ∈ wsU := wu_t (tm2 (List.mem_of_getElem? (i := 28) (by decide +kernel))) rfl
theorem wcd_X4_advance : Cond.code yX4_advance cX4_advance 1 none ∈ wsU := wu_t (tm2 (List.mem_of_getElem? (i := 29) (rfl))) rfl
theorem wml_X4_69 : Cond.methodLink RX4 69 yX4_isLetter ∈ wsU := wu_t (tm2 (List.mem_of_getElem? (i := 30) (by decide +kernel))) rfl
theorem wst_X4_isLetter : Cond.static yX4_isLetter ∈ wsU := wu_t (tm2 (List.mem_of_getElem? (i := 31) (by decide +kernel))) rfl
theorem wcd_X4_isLetter : Cond.code yX4_isLetter cX4_isLetter 1 (some FieldType.boolean) ∈ wsU := wu_t (tm2 (List.mem_of_getElem? (i := 32) (rfl))) rfl
theorem wmn_X4_100 : Cond.methodLinkNest RX4 100 yX10_within RX10 ∈ nsU := ns_t (tm2 (List.mem_of_getElem? (i := 33) (by decide +kernel))) rfl
theorem wml_X4_72 : Cond.methodLink RX4 72 yX4_takeWord ∈ wsU := wu_t (tm2 (List.mem_of_getElem? (i := 34) (by decide +kernel))) rfl
theorem wim_X4_takeWord : Cond.instanceMethod yX4_takeWord ∈ wsU := wu_t (tm2 (List.mem_of_getElem? (i := 36) (by decide +kernel))) rfl
theorem wcd_X4_takeWord : Cond.code yX4_takeWord cX4_takeWord 4 none ∈ wsU := wu_t (tm2 (List.mem_of_getElem? (i := 37) (rfl))) rfl
theorem wml_X4_86 : Cond.methodLink RX4 86 yJ0_length_8abf5 ∈ wsU := wu_t (tm2 (List.mem_of_getElem? (i := 39) (by decide +kernel))) rfl
theorem wim_J0_length_8abf5 : Cond.instanceMethod yJ0_length_8abf5 ∈ wsU := wu_t (tm2 (List.mem_of_getElem? (i := 40) (by decide +kernel))) rfl
theorem wse_J0_J0_length_8abf5_J0_length_8abf5 : Cond.selects RJ0 yJ0_length_8abf5 yJ0_length_8abf5 ∈ wsU := wu_t (tm2 (List.mem_of_getElem? (i := 41) (by decide +kernel))) rfl
theorem wcd_J0_length_8abf5 : Cond.code yJ0_length_8abf5 cJ0_length_8abf5 1 (some FieldType.int) ∈ wsU := wu_t (tm2 (List.mem_of_getElem? (i := 42) (rfl))) rfl
theorem wml_J0_335 : Cond.methodLink RJ0 335 yJ0_coder_7d493 ∈ wsU := wu_t (tm2 (List.mem_of_getElem? (i := 43) (by decide +kernel))) rfl
theorem wim_J0_coder_7d493 : Cond.instanceMethod yJ0_coder_7d493 ∈ wsU := wu_t (tm2 (List.mem_of_getElem? (i := 44) (by decide +kernel))) rfl
theorem wse_J0_J0_coder_7d493_J0_coder_7d493 : Cond.selects RJ0 yJ0_coder_7d493 yJ0_coder_7d493 ∈ wsU := wu_t (tm2 (List.mem_of_getElem? (i := 45) (by decide +kernel))) rfl
theorem wcd_J0_coder_7d493 : Cond.code yJ0_coder_7d493 cJ0_coder_7d493 1 (some FieldType.byte) ∈ wsU := wu_t (tm2 (List.mem_of_getElem? (i := 46) (rfl))) rfl
theorem wfl_J0_38 : Cond.fieldLink RJ0 38 RJ0 "COMPACT_STRINGS" "Z" ∈ wsU := wu_t (tm2 (List.mem_of_getElem? (i := 47) (by decide +kernel))) rfl
theorem wml_X4_92 : Cond.methodLink RX4 92 yJ0_charAt_5068e ∈ wsU := wu_t (tm2 (List.mem_of_getElem? (i := 49) (by decide +kernel))) rfl
theorem wim_J0_charAt_5068e : Cond.instanceMethod yJ0_charAt_5068e ∈ wsU := wu_t (tm2 (List.mem_of_getElem? (i := 50) (by decide +kernel))) rfl
theorem wse_J0_J0_charAt_5068e_J0_charAt_5068e : Cond.selects RJ0 yJ0_charAt_5068e yJ0_charAt_5068e ∈ wsU := wu_t (tm2 (List.mem_of_getElem? (i := 51) (by decide +kernel))) rfl
theorem wcd_J0_charAt_5068e : Cond.code yJ0_charAt_5068e cJ0_charAt_5068e 2 (some FieldType.char) ∈ wsU := wu_t (tm2 (List.mem_of_getElem? (i := 52) (rfl))) rfl
theorem wml_J0_492 : Cond.methodLink RJ0 492 yJ0_isLatin1_aae02 ∈ wsU := wu_t (tm2 (List.mem_of_getElem? (i := 53) (by decide +kernel))) rfl
theorem wim_J0_isLatin1_aae02 : Cond.instanceMethod yJ0_isLatin1_aae02 ∈ wsU := wu_t (tm2 (List.mem_of_getElem? (i := 54) (by decide +kernel))) rfl
theorem wse_J0_J0_isLatin1_aae02_J0_isLatin1_aae02 : Cond.selects RJ0 yJ0_isLatin1_aae02 yJ0_isLatin1_aae02 ∈ wsU := wu_t (tm2 (List.mem_of_getElem? (i := 55) (by decide +kernel))) rfl
theorem wcd_J0_isLatin1_aae02 : Cond.code yJ0_isLatin1_aae02 cJ0_isLatin1_aae02 1 (some FieldType.boolean) ∈ wsU := wu_t (tm2 (List.mem_of_getElem? (i := 56) (rfl))) rfl
theorem wml_J0_495 : Cond.methodLink RJ0 495 yJ1_charAt_3b067 ∈ wsU := wu_t (tm2 (List.mem_of_getElem? (i := 57) (by decide +kernel))) rfl
theorem wst_J1_charAt_3b067 : Cond.static yJ1_charAt_3b067 ∈ wsU := wu_t (tm2 (List.mem_of_getElem? (i := 58) (by decide +kernel))) rfl
theorem wcd_J1_charAt_3b067 : Cond.code yJ1_charAt_3b067 cJ1_charAt_3b067 2 (some FieldType.char) ∈ wsU := wu_t (tm2 (List.mem_of_getElem? (i := 59) (rfl))) rfl
theorem wml_J1_9 : Cond.methodLink RJ1 9 yJ0_checkIndex_df160 ∈ wsU := wu_t (tm2 (List.mem_of_getElem? (i := 60) (by decide +kernel))) rfl
theorem wst_J0_checkIndex_df160 : Cond.static yJ0_checkIndex_df160 ∈ wsU := wu_t (tm2 (List.mem_of_getElem? (i := 61) (by decide +kernel))) rfl
theorem wcd_J0_checkIndex_df160 : Cond.code yJ0_checkIndex_df160 cJ0_checkIndex_df160 2 none ∈ wsU := wu_t (tm2 (List.mem_of_getElem? (i := 62) (rfl))) rfl
theorem wfl_J0_1053 : Cond.fieldLink RJ0 1053 RJ3 "SIOOBE_FORMATTER" "Ljava/util/function/BiFunction;" ∈ wsU := wu_t (tm2 (List.mem_of_getElem? (i := 63) (by decide +kernel))) rfl
theorem wml_J0_1059 : Cond.methodLink RJ0 1059 yJ3_checkIndex_8e157 ∈ wsU := wu_t (tm2 (List.mem_of_getElem? (i := 65) (by decide +kernel))) rfl
theorem wst_J3_checkIndex_8e157 : Cond.static yJ3_checkIndex_8e157 ∈ wsU := wu_t (tm2 (List.mem_of_getElem? (i := 66) (by decide +kernel))) rfl
theorem wcd_J3_checkIndex_8e157 : Cond.code yJ3_checkIndex_8e157 cJ3_checkIndex_8e157 3 (some FieldType.int) ∈ wsU := wu_t (tm2 (List.mem_of_getElem? (i := 67) (rfl))) rfl
theorem wml_J0_498 : Cond.methodLink RJ0 498 yJ2_charAt_3b067 ∈ wsU := wu_t (tm2 (List.mem_of_getElem? (i := 68) (by decide +kernel))) rfl
theorem wst_J2_charAt_3b067 : Cond.static yJ2_charAt_3b067 ∈ wsU := wu_t (tm2 (List.mem_of_getElem? (i := 69) (by decide +kernel))) rfl
theorem wcd_J2_charAt_3b067 : Cond.code yJ2_charAt_3b067 cJ2_charAt_3b067 2 (some FieldType.char) ∈ wsU := wu_t (tm2 (List.mem_of_getElem? (i := 70) (rfl))) rfl
theorem wml_J2_67 : Cond.methodLink RJ2 67 yJ2_checkIndex_2214a ∈ wsU := wu_t (tm2 (List.mem_of_getElem? (i := 71) (by decide +kernel))) rfl
theorem wst_J2_checkIndex_2214a : Cond.static yJ2_checkIndex_2214a ∈ wsU := wu_t (tm2 (List.mem_of_getElem? (i := 72) (by decide +kernel))) rfl
theorem wcd_J2_checkIndex_2214a : Cond.code yJ2_checkIndex_2214a cJ2_checkIndex_2214a 2 none ∈ wsU := wu_t (tm2 (List.mem_of_getElem? (i := 73) (rfl))) rfl
theorem wml_J2_48 : Cond.methodLink RJ2 48 yJ2_length_9d52b ∈ wsU := wu_t (tm2 (List.mem_of_getElem? (i := 74) (by decide +kernel))) rfl
theorem wst_J2_length_9d52b : Cond.static yJ2_length_9d52b ∈ wsU := wu_t (tm2 (List.mem_of_getElem? (i := 75) (by decide +kernel))) rfl
theorem wcd_J2_length_9d52b : Cond.code yJ2_length_9d52b cJ2_length_9d52b 1 (some FieldType.int) ∈ wsU := wu_t (tm2 (List.mem_of_getElem? (i := 76) (rfl))) rfl
theorem wml_J2_414 : Cond.methodLink RJ2 414 yJ0_checkIndex_df160 ∈ wsU := wu_t (tm2 (List.mem_of_getElem? (i := 77) (by decide +kernel))) rfl
theorem wml_J2_71 : Cond.methodLink RJ2 71 yJ2_getChar_3b067 ∈ wsU := wu_t (tm2 (List.mem_of_getElem? (i := 78) (by decide +kernel))) rfl
theorem wst_J2_getChar_3b067 : Cond.static yJ2_getChar_3b067 ∈ wsU := wu_t (tm2 (List.mem_of_getElem? (i := 79) (by decide +kernel))) rfl
theorem wcd_J2_getChar_3b067 : Cond.code yJ2_getChar_3b067 cJ2_getChar_3b067 2 (some FieldType.char) ∈ wsU := wu_t (tm2 (List.mem_of_getElem? (i := 80) (rfl))) rfl
theorem wfl_J2_44 : Cond.fieldLink RJ2 44 RJ2 "$assertionsDisabled" "Z" ∈ wsU := wu_t (tm2 (List.mem_of_getElem? (i := 81) (by decide +kernel))) rfl
theorem wfl_J2_59 : Cond.fieldLink RJ2 59 RJ2 "HI_BYTE_SHIFT" "I" ∈ wsU := wu_t (tm2 (List.mem_of_getElem? (i := 83) (by decide +kernel))) rfl
theorem wfl_J2_63 : Cond.fieldLink RJ2 63 RJ2 "LO_BYTE_SHIFT" "I" ∈ wsU := wu_t (tm2 (List.mem_of_getElem? (i := 85) (by decide +kernel))) rfl
theorem wml_X4_96 : Cond.methodLink RX4 96 yX4_isWord ∈ wsU := wu_t (tm2 (List.mem_of_getElem? (i := 87) (by decide +kernel))) rfl
theorem wim_X4_isWord : Cond.instanceMethod yX4_isWord ∈ wsU := wu_t (tm2 (List.mem_of_getElem? (i := 89) (by decide +kernel))) rfl
theorem wcd_X4_isWord : Cond.code yX4_isWord cX4_isWord 4 (some FieldType.boolean) ∈ wsU := wu_t (tm2 (List.mem_of_getElem? (i := 90) (rfl))) rfl
theorem wml_X4_75 : Cond.methodLink RX4 75 yX4_isDigit ∈ wsU := wu_t (tm2 (List.mem_of_getElem? (i := 91) (by decide +kernel))) rfl
theorem wst_X4_isDigit : Cond.static yX4_isDigit ∈ wsU := wu_t (tm2 (List.mem_of_getElem? (i := 92) (by decide +kernel))) rfl
theorem wcd_X4_isDigit : Cond.code yX4_isDigit cX4_isDigit 1 (some FieldType.boolean) ∈ wsU := wu_t (tm2 (List.mem_of_getElem? (i := 93) (rfl))) rfl
theorem wml_X4_78 : Cond.methodLink RX4 78 yX4_takeNumber ∈ wsU := wu_t (tm2 (List.mem_of_getElem? (i := 94) (by decide +kernel))) rfl
theorem wim_X4_takeNumber : Cond.instanceMethod yX4_takeNumber ∈ wsU := wu_t (tm2 (List.mem_of_getElem? (i := 96) (by decide +kernel))) rfl
theorem wcd_X4_takeNumber : Cond.code yX4_takeNumber cX4_takeNumber 1 none ∈ wsU := wu_t (tm2 (List.mem_of_getElem? (i := 97) (rfl))) rfl
theorem wml_X4_81 : Cond.methodLink RX4 81 yX4_isSign ∈ wsU := wu_t (tm2 (List.mem_of_getElem? (i := 98) (by decide +kernel))) rfl
theorem wst_X4_isSign : Cond.static yX4_isSign ∈ wsU := wu_t (tm2 (List.mem_of_getElem? (i := 99) (by decide +kernel))) rfl
theorem wcd_X4_isSign : Cond.code yX4_isSign cX4_isSign 1 (some FieldType.boolean) ∈ wsU := wu_t (tm2 (List.mem_of_getElem? (i := 100) (rfl))) rfl
theorem wml_X4_34 : Cond.methodLink RX4 34 yX4_skip ∈ wsU := wu_t (tm2 (List.mem_of_getElem? (i := 101) (by decide +kernel))) rfl
theorem wim_X4_skip : Cond.instanceMethod yX4_skip ∈ wsU := wu_t (tm2 (List.mem_of_getElem? (i := 103) (by decide +kernel))) rfl
theorem wcd_X4_skip : Cond.code yX4_skip cX4_skip 2 (some FieldType.boolean) ∈ wsU := wu_t (tm2 (List.mem_of_getElem? (i := 104) (rfl))) rfl
theorem wml_X4_38 : Cond.methodLink RX4 38 yX4_readOr ∈ wsU := wu_t (tm2 (List.mem_of_getElem? (i := 105) (by decide +kernel))) rfl
theorem wim_X4_readOr : Cond.instanceMethod yX4_readOr ∈ wsU := wu_t (tm2 (List.mem_of_getElem? (i := 107) (by decide +kernel))) rfl
theorem wcd_X4_readOr : Cond.code yX4_readOr cX4_readOr 3 (some FieldType.boolean) ∈ wsU := wu_t (tm2 (List.mem_of_getElem? (i := 108) (rfl))) rfl
theorem wml_X4_44 : Cond.methodLink RX4 44 yX4_readAnd ∈ wsU := wu_t (tm2 (List.mem_of_getElem? (i := 109) (by decide +kernel))) rfl
theorem wim_X4_readAnd : Cond.instanceMethod yX4_readAnd ∈ wsU := wu_t (tm2 (List.mem_of_getElem? (i := 111) (by decide +kernel))) rfl
theorem wcd_X4_readAnd : Cond.code yX4_readAnd cX4_readAnd 3 (some FieldType.boolean) ∈ wsU := wu_t (tm2 (List.mem_of_getElem? (i := 112) (rfl))) rfl
theorem wml_X4_51 : Cond.methodLink RX4 51 yX4_readNot ∈ wsU := wu_t (tm2 (List.mem_of_getElem? (i := 113) (by decide +kernel))) rfl
theorem wim_X4_readNot : Cond.instanceMethod yX4_readNot ∈ wsU := wu_t (tm2 (List.mem_of_getElem? (i := 115) (by decide +kernel))) rfl
theorem wcd_X4_readNot : Cond.code yX4_readNot cX4_readNot 3 (some FieldType.boolean) ∈ wsU := wu_t (tm2 (List.mem_of_getElem? (i := 116) (rfl))) rfl
theorem wml_X4_47 : Cond.methodLink RX4 47 yX4_emit ∈ wsU := wu_t (tm2 (List.mem_of_getElem? (i := 117) (by decide +kernel))) rfl
theorem wim_X4_emit : Cond.instanceMethod yX4_emit ∈ wsU := wu_t (tm2 (List.mem_of_getElem? (i := 119) (by decide +kernel))) rfl
theorem wcd_X4_emit : Cond.code yX4_emit cX4_emit 2 none ∈ wsU := wu_t (tm2 (List.mem_of_getElem? (i := 120) (rfl))) rfl
theorem wml_X4_54 : Cond.methodLink RX4 54 yX4_readSum ∈ wsU := wu_t (tm2 (List.mem_of_getElem? (i := 121) (by decide +kernel))) rfl
theorem wim_X4_readSum : Cond.instanceMethod yX4_readSum ∈ wsU := wu_t (tm2 (List.mem_of_getElem? (i := 123) (by decide +kernel))) rfl
theorem wcd_X4_readSum : Cond.code yX4_readSum cX4_readSum 4 (some FieldType.boolean) ∈ wsU := wu_t (tm2 (List.mem_of_getElem? (i := 124) (rfl))) rfl
theorem wml_X4_57 : Cond.methodLink RX4 57 yX4_readTerm ∈ wsU := wu_t (tm2 (List.mem_of_getElem? (i := 125) (by decide +kernel))) rfl
theorem wim_X4_readTerm : Cond.instanceMethod yX4_readTerm ∈ wsU := wu_t (tm2 (List.mem_of_getElem? (i := 127) (by decide +kernel))) rfl
theorem wcd_X4_readTerm : Cond.code yX4_readTerm cX4_readTerm 3 (some FieldType.boolean) ∈ wsU := wu_t (tm2 (List.mem_of_getElem? (i := 128) (rfl))) rfl
theorem wml_X4_60 : Cond.methodLink RX4 60 yX4_readOne ∈ wsU := wu_t (tm2 (List.mem_of_getElem? (i := 129) (by decide +kernel))) rfl
theorem wim_X4_readOne : Cond.instanceMethod yX4_readOne ∈ wsU := wu_t (tm2 (List.mem_of_getElem? (i := 131) (by decide +kernel))) rfl
theorem wcd_X4_readOne : Cond.code yX4_readOne cX4_readOne 2 (some FieldType.boolean) ∈ wsU := wu_t (tm2 (List.mem_of_getElem? (i := 132) (rfl))) rfl
theorem wmn_X10_113 : Cond.methodLinkNest RX10 113 yX8_become RX10 ∈ nsU := ns_t (tm2 (List.mem_of_getElem? (i := 133) (by decide +kernel))) rfl
theorem wim_X8_become : Cond.instanceMethod yX8_become ∈ wsU := wu_t (tm2 (List.mem_of_getElem? (i := 135) (by decide +kernel))) rfl
theorem wcd_X8_become : Cond.code yX8_become cX8_become 2 none ∈ wsU := wu_t (tm2 (List.mem_of_getElem? (i := 136) (rfl))) rfl
theorem wml_X8_28 : Cond.methodLink RX8 28 yJ7_copyOf_59c91 ∈ wsU := wu_t (tm2 (List.mem_of_getElem? (i := 137) (by decide +kernel))) rfl
theorem wst_J7_copyOf_59c91 : Cond.static yJ7_copyOf_59c91 ∈ wsU := wu_t (tm2 (List.mem_of_getElem? (i := 138) (by decide +kernel))) rfl
theorem wcd_J7_copyOf_59c91 : Cond.code yJ7_copyOf_59c91 cJ7_copyOf_59c91 3 (some (FieldType.array FieldType.int)) ∈ wsU := wu_t (tm2 (List.mem_of_getElem? (i := 139) (rfl))) rfl
theorem wml_J7_316 : Cond.methodLink RJ7 316 ⟨"[I", "clone", "()Ljava/lang/Object;"⟩ ∈ wsU := wu_t (tm2 (List.mem_of_getElem? (i := 140) (by decide +kernel))) rfl
theorem wml_J7_304 : Cond.methodLink RJ7 304 yJ9_min_7cf53 ∈ wsU := wu_t (tm2 (List.mem_of_getElem? (i := 147) (by decide +kernel))) rfl
theorem wst_J9_min_7cf53 : Cond.static yJ9_min_7cf53 ∈ wsU := wu_t (tm2 (List.mem_of_getElem? (i := 148) (by decide +kernel))) rfl
theorem wcd_J9_min_7cf53 : Cond.code yJ9_min_7cf53 cJ9_min_7cf53 2 (some FieldType.int) ∈ wsU := wu_t (tm2 (List.mem_of_getElem? (i := 149) (rfl))) rfl
theorem wml_J7_150 : Cond.methodLink RJ7 150 ⟨RJ10, "arraycopy", "(Ljava/lang/Object;ILjava/lang/Object;II)V"⟩ ∈ wsU := wu_t (tm2 (List.mem_of_getElem? (i := 150) (by decide +kernel))) rfl
theorem wst_acp : Cond.static arraycopyName ∈ wsU := wu_t (tm2 (List.mem_of_getElem? (i := 151) (by decide +kernel))) rfl
theorem wna_acp : Cond.native arraycopyName ∈ wsU := wu_t (tm2 (List.mem_of_getElem? (i := 152) (by decide +kernel))) rfl
theorem wml_X8_35 : Cond.methodLink RX8 35 ⟨RJ10, "arraycopy", "(Ljava/lang/Object;ILjava/lang/Object;II)V"⟩ ∈ wsU := wu_t (tm2 (List.mem_of_getElem? (i := 153) (by decide +kernel))) rfl
theorem wml_L_37 : Cond.methodLink RL 37 yX10_force ∈ wsU := wu_t (tm2 (List.mem_of_getElem? (i := 155) (by decide +kernel))) rfl
theorem wim_X10_force : Cond.instanceMethod yX10_force ∈ wsU := wu_t (tm2 (List.mem_of_getElem? (i := 156) (by decide +kernel))) rfl
theorem wse_X10_X10_force_X10_force : Cond.selects RX10 yX10_force yX10_force ∈ wsU := wu_t (tm2 (List.mem_of_getElem? (i := 157) (by decide +kernel))) rfl
theorem wcd_X10_force : Cond.code yX10_force cX10_force 3 (some FieldType.int) ∈ wsU := wu_t (tm2 (List.mem_of_getElem? (i := 158) (rfl))) rfl
theorem wml_L_41 : Cond.methodLink RL 41 yX10_asks ∈ wsU := wu_t (tm2 (List.mem_of_getElem? (i := 159) (by decide +kernel))) rfl
theorem wim_X10_asks : Cond.instanceMethod yX10_asks ∈ wsU := wu_t (tm2 (List.mem_of_getElem? (i := 160) (by decide +kernel))) rfl
theorem wse_X10_X10_asks_X10_asks : Cond.selects RX10 yX10_asks yX10_asks ∈ wsU := wu_t (tm2 (List.mem_of_getElem? (i := 161) (by decide +kernel))) rfl
theorem wcd_X10_asks : Cond.code yX10_asks cX10_asks 4 (some FieldType.int) ∈ wsU := wu_t (tm2 (List.mem_of_getElem? (i := 162) (rfl))) rfl
theorem wmn_X10_117 : Cond.methodLinkNest RX10 117 yX5_has RX10 ∈ nsU := ns_t (tm2 (List.mem_of_getElem? (i := 163) (by decide +kernel))) rfl
theorem wim_X5_has : Cond.instanceMethod yX5_has ∈ wsU := wu_t (tm2 (List.mem_of_getElem? (i := 165) (by decide +kernel))) rfl
theorem wcd_X5_has : Cond.code yX5_has cX5_has 2 (some FieldType.boolean) ∈ wsU := wu_t (tm2 (List.mem_of_getElem? (i := 166) (rfl))) rfl
theorem wmn_X5_55 : Cond.methodLinkNest RX5 55 yX10_within RX10 ∈ nsU := ns_t (tm2 (List.mem_of_getElem? (i := 167) (by decide +kernel))) rfl
theorem wmn_X10_120 : Cond.methodLinkNest RX10 120 yX5_said RX10 ∈ nsU := ns_t (tm2 (List.mem_of_getElem? (i := 168) (by decide +kernel))) rfl
theorem wim_X5_said : Cond.instanceMethod yX5_said ∈ wsU := wu_t (tm2 (List.mem_of_getElem? (i := 170) (by decide +kernel))) rfl
theorem wcd_X5_said : Cond.code yX5_said cX5_said 4 (some FieldType.int) ∈ wsU := wu_t (tm2 (List.mem_of_getElem? (i := 171) (rfl))) rfl
theorem wmn_X5_61 : Cond.methodLinkNest RX5 61 yX8_says RX10 ∈ nsU := ns_t (tm2 (List.mem_of_getElem? (i := 172) (by decide +kernel))) rfl
theorem wim_X8_says : Cond.instanceMethod yX8_says ∈ wsU := wu_t (tm2 (List.mem_of_getElem? (i := 174) (by decide +kernel))) rfl
theorem wcd_X8_says : Cond.code yX8_says cX8_says 6 (some FieldType.int) ∈ wsU := wu_t (tm2 (List.mem_of_getElem? (i := 175) (rfl))) rfl
theorem wml_X8_41 : Cond.methodLink RX8 41 yX8_ofOne ∈ wsU := wu_t (tm2 (List.mem_of_getElem? (i := 176) (by decide +kernel))) rfl
theorem wst_X8_ofOne : Cond.static yX8_ofOne ∈ wsU := wu_t (tm2 (List.mem_of_getElem? (i := 177) (by decide +kernel))) rfl
theorem wcd_X8_ofOne : Cond.code yX8_ofOne cX8_ofOne 2 (some FieldType.int) ∈ wsU := wu_t (tm2 (List.mem_of_getElem? (i := 178) (rfl))) rfl
theorem wml_X8_45 : Cond.methodLink RX8 45 yX8_ofTwo ∈ wsU := wu_t (tm2 (List.mem_of_getElem? (i := 179) (by decide +kernel))) rfl
theorem wst_X8_ofTwo : Cond.static yX8_ofTwo ∈ wsU := wu_t (tm2 (List.mem_of_getElem? (i := 180) (by decide +kernel))) rfl
theorem wcd_X8_ofTwo : Cond.code yX8_ofTwo cX8_ofTwo 3 (some FieldType.int) ∈ wsU := wu_t (tm2 (List.mem_of_getElem? (i := 181) (rfl))) rfl
theorem wml_X8_49 : Cond.methodLink RX8 49 yJ9_min_7cf53 ∈ wsU := wu_t (tm2 (List.mem_of_getElem? (i := 182) (by decide +kernel))) rfl
theorem wml_X8_54 : Cond.methodLink RX8 54 yJ9_max_7cf53 ∈ wsU := wu_t (tm2 (List.mem_of_getElem? (i := 183) (by decide +kernel))) rfl
theorem wst_J9_max_7cf53 : Cond.static yJ9_max_7cf53 ∈ wsU := wu_t (tm2 (List.mem_of_getElem? (i := 184) (by decide +kernel))) rfl
theorem wcd_J9_max_7cf53 : Cond.code yJ9_max_7cf53 cJ9_max_7cf53 2 (some FieldType.int) ∈ wsU := wu_t (tm2 (List.mem_of_getElem? (i := 185) (rfl))) rfl
theorem wml_L_46 : Cond.methodLink RL 46 yX10_person ∈ wsU := wu_t (tm2 (List.mem_of_getElem? (i := 186) (by decide +kernel))) rfl
theorem wim_X10_person : Cond.instanceMethod yX10_person ∈ wsU := wu_t (tm2 (List.mem_of_getElem? (i := 187) (by decide +kernel))) rfl
theorem wse_X10_X10_person_X10_person : Cond.selects RX10 yX10_person yX10_person ∈ wsU := wu_t (tm2 (List.mem_of_getElem? (i := 188) (by decide +kernel))) rfl
theorem wcd_X10_person : Cond.code yX10_person cX10_person 3 (some FieldType.int) ∈ wsU := wu_t (tm2 (List.mem_of_getElem? (i := 189) (rfl))) rfl
theorem wmn_X10_124 : Cond.methodLinkNest RX10 124 yX5_admit RX10 ∈ nsU := ns_t (tm2 (List.mem_of_getElem? (i := 190) (by decide +kernel))) rfl
theorem wim_X5_admit : Cond.instanceMethod yX5_admit ∈ wsU := wu_t (tm2 (List.mem_of_getElem? (i := 192) (by decide +kernel))) rfl
theorem wcd_X5_admit : Cond.code yX5_admit cX5_admit 3 (some FieldType.int) ∈ wsU := wu_t (tm2 (List.mem_of_getElem? (i := 193) (rfl))) rfl
theorem wml_L_50 : Cond.methodLink RL 50 yX10_put ∈ wsU := wu_t (tm2 (List.mem_of_getElem? (i := 194) (by decide +kernel))) rfl
theorem wim_X10_put : Cond.instanceMethod yX10_put ∈ wsU := wu_t (tm2 (List.mem_of_getElem? (i := 195) (by decide +kernel))) rfl
theorem wse_X10_X10_put_X10_put : Cond.selects RX10 yX10_put yX10_put ∈ wsU := wu_t (tm2 (List.mem_of_getElem? (i := 196) (by decide +kernel))) rfl
theorem wcd_X10_put : Cond.code yX10_put cX10_put 5 (some FieldType.int) ∈ wsU := wu_t (tm2 (List.mem_of_getElem? (i := 197) (rfl))) rfl
theorem wml_L_54 : Cond.methodLink RL 54 yX10_told ∈ wsU := wu_t (tm2 (List.mem_of_getElem? (i := 198) (by decide +kernel))) rfl
theorem wim_X10_told : Cond.instanceMethod yX10_told ∈ wsU := wu_t (tm2 (List.mem_of_getElem? (i := 199) (by decide +kernel))) rfl
theorem wse_X10_X10_told_X10_told : Cond.selects RX10 yX10_told yX10_told ∈ wsU := wu_t (tm2 (List.mem_of_getElem? (i := 200) (by decide +kernel))) rfl
theorem wcd_X10_told : Cond.code yX10_told cX10_told 3 (some FieldType.int) ∈ wsU := wu_t (tm2 (List.mem_of_getElem? (i := 201) (rfl))) rfl
theorem wml_L_58 : Cond.methodLink RL 58 yX10_day ∈ wsU := wu_t (tm2 (List.mem_of_getElem? (i := 202) (by decide +kernel))) rfl
theorem wim_X10_day : Cond.instanceMethod yX10_day ∈ wsU := wu_t (tm2 (List.mem_of_getElem? (i := 203) (by decide +kernel))) rfl
theorem wse_X10_X10_day_X10_day : Cond.selects RX10 yX10_day yX10_day ∈ wsU := wu_t (tm2 (List.mem_of_getElem? (i := 204) (by decide +kernel))) rfl
theorem wcd_X10_day : Cond.code yX10_day cX10_day 1 (some FieldType.int) ∈ wsU := wu_t (tm2 (List.mem_of_getElem? (i := 205) (rfl))) rfl
theorem wmn_X10_131 : Cond.methodLinkNest RX10 131 yX5_passDay RX10 ∈ nsU := ns_t (tm2 (List.mem_of_getElem? (i := 206) (by decide +kernel))) rfl
theorem wim_X5_passDay : Cond.instanceMethod yX5_passDay ∈ wsU := wu_t (tm2 (List.mem_of_getElem? (i := 208) (by decide +kernel))) rfl
theorem wcd_X5_passDay : Cond.code yX5_passDay cX5_passDay 2 none ∈ wsU := wu_t (tm2 (List.mem_of_getElem? (i := 209) (rfl))) rfl
theorem wml_X5_101 : Cond.methodLink RX5 101 yX5_leave ∈ wsU := wu_t (tm2 (List.mem_of_getElem? (i := 210) (by decide +kernel))) rfl
theorem wim_X5_leave : Cond.instanceMethod yX5_leave ∈ wsU := wu_t (tm2 (List.mem_of_getElem? (i := 212) (by decide +kernel))) rfl
theorem wcd_X5_leave : Cond.code yX5_leave cX5_leave 7 none ∈ wsU := wu_t (tm2 (List.mem_of_getElem? (i := 213) (rfl))) rfl
theorem wml_X5_71 : Cond.methodLink RX5 71 yX5_said ∈ wsU := wu_t (tm2 (List.mem_of_getElem? (i := 214) (by decide +kernel))) rfl
theorem wml_X5_67 : Cond.methodLink RX5 67 yX5_kindOf ∈ wsU := wu_t (tm2 (List.mem_of_getElem? (i := 215) (by decide +kernel))) rfl
theorem wim_X5_kindOf : Cond.instanceMethod yX5_kindOf ∈ wsU := wu_t (tm2 (List.mem_of_getElem? (i := 217) (by decide +kernel))) rfl
theorem wcd_X5_kindOf : Cond.code yX5_kindOf cX5_kindOf 2 (some (FieldType.object "UnderlayOfUnspoken$Person")) ∈ wsU := wu_t (tm2 (List.mem_of_getElem? (i := 218) (rfl))) rfl
theorem wml_X5_92 : Cond.methodLink RX5 92 yX3_drops ∈ wsU := wu_t (tm2 (List.mem_of_getElem? (i := 219) (by decide +kernel))) rfl
theorem wim_X3_drops : Cond.instanceMethod yX3_drops ∈ wsU := wu_t (tm2 (List.mem_of_getElem? (i := 220) (by decide +kernel))) rfl
theorem wse_X3_X3_drops_X3_drops : Cond.selects RX3 yX3_drops yX3_drops ∈ wsU := wu_t (tm2 (List.mem_of_getElem? (i := 221) (by decide +kernel))) rfl
theorem wsm_X3_X3_drops : Cond.sameMethod RX3 RX3 "drops" "(III)I" ∈ wsU := wu_t (tm2 (List.mem_of_getElem? (i := 222) (by decide +kernel))) rfl
theorem wse_X0_X3_drops_X0_drops : Cond.selects RX0 yX3_drops yX0_drops ∈ wsU := wu_t (tm2 (List.mem_of_getElem? (i := 223) (by decide +kernel))) rfl
theorem wim_X0_drops : Cond.instanceMethod yX0_drops ∈ wsU := wu_t (tm2 (List.mem_of_getElem? (i := 224) (by decide +kernel))) rfl
theorem wcd_X0_drops : Cond.code yX0_drops cX0_drops 4 (some FieldType.int) ∈ wsU := wu_t (tm2 (List.mem_of_getElem? (i := 225) (rfl))) rfl
theorem wml_X0_7 : Cond.methodLink RX0 7 yX3_drops ∈ wsU := wu_t (tm2 (List.mem_of_getElem? (i := 226) (by decide +kernel))) rfl
theorem wse_X1_X3_drops_X1_drops : Cond.selects RX1 yX3_drops yX1_drops ∈ wsU := wu_t (tm2 (List.mem_of_getElem? (i := 227) (by decide +kernel))) rfl
theorem wim_X1_drops : Cond.instanceMethod yX1_drops ∈ wsU := wu_t (tm2 (List.mem_of_getElem? (i := 228) (by decide +kernel))) rfl
theorem wcd_X1_drops : Cond.code yX1_drops cX1_drops 4 (some FieldType.int) ∈ wsU := wu_t (tm2 (List.mem_of_getElem? (i := 229) (rfl))) rfl
theorem wse_X2_X3_drops_X2_drops : Cond.selects RX2 yX3_drops yX2_drops ∈ wsU := wu_t (tm2 (List.mem_of_getElem? (i := 230) (by decide +kernel))) rfl
theorem wim_X2_drops : Cond.instanceMethod yX2_drops ∈ wsU := wu_t (tm2 (List.mem_of_getElem? (i := 231) (by decide +kernel))) rfl
theorem wcd_X2_drops : Cond.code yX2_drops cX2_drops 4 (some FieldType.int) ∈ wsU := wu_t (tm2 (List.mem_of_getElem? (i := 232) (rfl))) rfl
theorem wse_X7_X3_drops_X7_drops : Cond.selects RX7 yX3_drops yX7_drops ∈ wsU := wu_t (tm2 (List.mem_of_getElem? (i := 233) (by decide +kernel))) rfl
theorem wim_X7_drops : Cond.instanceMethod yX7_drops ∈ wsU := wu_t (tm2 (List.mem_of_getElem? (i := 234) (by decide +kernel))) rfl
theorem wcd_X7_drops : Cond.code yX7_drops cX7_drops 4 (some FieldType.int) ∈ wsU := wu_t (tm2 (List.mem_of_getElem? (i := 235) (rfl))) rfl
theorem wml_X7_7 : Cond.methodLink RX7 7 yX2_drops ∈ wsU := wu_t (tm2 (List.mem_of_getElem? (i := 236) (by decide +kernel))) rfl
theorem wse_X9_X3_drops_X9_drops : Cond.selects RX9 yX3_drops yX9_drops ∈ wsU := wu_t (tm2 (List.mem_of_getElem? (i := 237) (by decide +kernel))) rfl
theorem wim_X9_drops : Cond.instanceMethod yX9_drops ∈ wsU := wu_t (tm2 (List.mem_of_getElem? (i := 238) (by decide +kernel))) rfl
theorem wcd_X9_drops : Cond.code yX9_drops cX9_drops 4 (some FieldType.int) ∈ wsU := wu_t (tm2 (List.mem_of_getElem? (i := 239) (rfl))) rfl
theorem wml_X9_7 : Cond.methodLink RX9 7 yX0_drops ∈ wsU := wu_t (tm3 (List.mem_of_getElem? (i := 0) (by decide +kernel))) rfl
theorem wcd_X3_drops : Cond.code yX3_drops cX3_drops 4 (some FieldType.int) ∈ wsU := wu_t (tm3 (List.mem_of_getElem? (i := 1) (rfl))) rfl
theorem wml_X5_105 : Cond.methodLink RX5 105 yX5_thicken ∈ wsU := wu_t (tm3 (List.mem_of_getElem? (i := 2) (by decide +kernel))) rfl
theorem wim_X5_thicken : Cond.instanceMethod yX5_thicken ∈ wsU := wu_t (tm3 (List.mem_of_getElem? (i := 4) (by decide +kernel))) rfl
theorem wcd_X5_thicken : Cond.code yX5_thicken cX5_thicken 3 none ∈ wsU := wu_t (tm3 (List.mem_of_getElem? (i := 5) (rfl))) rfl
theorem wml_X5_84 : Cond.methodLink RX5 84 yJ9_min_7cf53 ∈ wsU := wu_t (tm3 (List.mem_of_getElem? (i := 6) (by decide +kernel))) rfl
theorem wml_X5_112 : Cond.methodLink RX5 112 yJ9_max_7cf53 ∈ wsU := wu_t (tm3 (List.mem_of_getElem? (i := 7) (by decide +kernel))) rfl
theorem wmn_X5_109 : Cond.methodLinkNest RX5 109 yX10_neighbour RX10 ∈ nsU := ns_t (tm3 (List.mem_of_getElem? (i := 8) (by decide +kernel))) rfl
theorem wst_X10_neighbour : Cond.static yX10_neighbour ∈ wsU := wu_t (tm3 (List.mem_of_getElem? (i := 9) (by decide +kernel))) rfl
theorem wcd_X10_neighbour : Cond.code yX10_neighbour cX10_neighbour 2 (some FieldType.int) ∈ wsU := wu_t (tm3 (List.mem_of_getElem? (i := 10) (rfl))) rfl
theorem wml_L_62 : Cond.methodLink RL 62 yX10_leaves ∈ wsU := wu_t (tm3 (List.mem_of_getElem? (i := 11) (by decide +kernel))) rfl
theorem wim_X10_leaves : Cond.instanceMethod yX10_leaves ∈ wsU := wu_t (tm3 (List.mem_of_getElem? (i := 12) (by decide +kernel))) rfl
theorem wse_X10_X10_leaves_X10_leaves : Cond.selects RX10 yX10_leaves yX10_leaves ∈ wsU := wu_t (tm3 (List.mem_of_getElem? (i := 13) (by decide +kernel))) rfl
theorem wcd_X10_leaves : Cond.code yX10_leaves cX10_leaves 4 (some FieldType.int) ∈ wsU := wu_t (tm3 (List.mem_of_getElem? (i := 14) (rfl))) rfl
theorem wmn_X10_134 : Cond.methodLinkNest RX10 134 yX5_leftOn RX10 ∈ nsU := ns_t (tm3 (List.mem_of_getElem? (i := 15) (by decide +kernel))) rfl
theorem wim_X5_leftOn : Cond.instanceMethod yX5_leftOn ∈ wsU := wu_t (tm3 (List.mem_of_getElem? (i := 17) (by decide +kernel))) rfl
theorem wcd_X5_leftOn : Cond.code yX5_leftOn cX5_leftOn 5 (some FieldType.int) ∈ wsU := wu_t (tm3 (List.mem_of_getElem? (i := 18) (rfl))) rfl
theorem wmn_X5_89 : Cond.methodLinkNest RX5 89 yX10_apart RX10 ∈ nsU := ns_t (tm3 (List.mem_of_getElem? (i := 19) (by decide +kernel))) rfl
theorem wst_X10_apart : Cond.static yX10_apart ∈ wsU := wu_t (tm3 (List.mem_of_getElem? (i := 20) (by decide +kernel))) rfl
theorem wcd_X10_apart : Cond.code yX10_apart cX10_apart 2 (some FieldType.int) ∈ wsU := wu_t (tm3 (List.mem_of_getElem? (i := 21) (rfl))) rfl
theorem wml_X10_274 : Cond.methodLink RX10 274 yJ9_abs_0f7a4 ∈ wsU := wu_t (tm3 (List.mem_of_getElem? (i := 22) (by decide +kernel))) rfl
theorem wst_J9_abs_0f7a4 : Cond.static yJ9_abs_0f7a4 ∈ wsU := wu_t (tm3 (List.mem_of_getElem? (i := 23) (by decide +kernel))) rfl
theorem wcd_J9_abs_0f7a4 : Cond.code yJ9_abs_0f7a4 cJ9_abs_0f7a4 1 (some FieldType.int) ∈ wsU := wu_t (tm3 (List.mem_of_getElem? (i := 24) (rfl))) rfl
theorem wmn_X10_137 : Cond.methodLinkNest RX10 137 yX5_leftInAll RX10 ∈ nsU := ns_t (tm3 (List.mem_of_getElem? (i := 25) (by decide +kernel))) rfl
theorem wim_X5_leftInAll : Cond.instanceMethod yX5_leftInAll ∈ wsU := wu_t (tm3 (List.mem_of_getElem? (i := 27) (by decide +kernel))) rfl
theorem wcd_X5_leftInAll : Cond.code yX5_leftInAll cX5_leftInAll 4 (some FieldType.int) ∈ wsU := wu_t (tm3 (List.mem_of_getElem? (i := 28) (rfl))) rfl
theorem wml_X5_95 : Cond.methodLink RX5 95 yX5_leftOn ∈ wsU := wu_t (tm3 (List.mem_of_getElem? (i := 29) (by decide +kernel))) rfl
theorem wml_L_66 : Cond.methodLink RL 66 yX10_run ∈ wsU := wu_t (tm3 (List.mem_of_getElem? (i := 30) (by decide +kernel))) rfl
theorem wim_X10_run : Cond.instanceMethod yX10_run ∈ wsU := wu_t (tm3 (List.mem_of_getElem? (i := 31) (by decide +kernel))) rfl
theorem wse_X10_X10_run_X10_run : Cond.selects RX10 yX10_run yX10_run ∈ wsU := wu_t (tm3 (List.mem_of_getElem? (i := 32) (by decide +kernel))) rfl
theorem wcd_X10_run : Cond.code yX10_run cX10_run 3 (some FieldType.int) ∈ wsU := wu_t (tm3 (List.mem_of_getElem? (i := 33) (rfl))) rfl
theorem wmn_X10_141 : Cond.methodLinkNest RX10 141 yX5_takeFrom RX10 ∈ nsU := ns_t (tm3 (List.mem_of_getElem? (i := 34) (by decide +kernel))) rfl
theorem wim_X5_takeFrom : Cond.instanceMethod yX5_takeFrom ∈ wsU := wu_t (tm3 (List.mem_of_getElem? (i := 36) (by decide +kernel))) rfl
theorem wcd_X5_takeFrom : Cond.code yX5_takeFrom cX5_takeFrom 3 none ∈ wsU := wu_t (tm3 (List.mem_of_getElem? (i := 37) (rfl))) rfl
theorem wml_X5_39 : Cond.methodLink RX5 39 ⟨RJ10, "arraycopy", "(Ljava/lang/Object;ILjava/lang/Object;II)V"⟩ ∈ wsU := wu_t (tm3 (List.mem_of_getElem? (i := 38) (by decide +kernel))) rfl
theorem wmn_X10_145 : Cond.methodLinkNest RX10 145 yX5_passDays RX10 ∈ nsU := ns_t (tm3 (List.mem_of_getElem? (i := 39) (by decide +kernel))) rfl
theorem wim_X5_passDays : Cond.instanceMethod yX5_passDays ∈ wsU := wu_t (tm3 (List.mem_of_getElem? (i := 41) (by decide +kernel))) rfl
theorem wcd_X5_passDays : Cond.code yX5_passDays cX5_passDays 3 none ∈ wsU := wu_t (tm3 (List.mem_of_getElem? (i := 42) (rfl))) rfl
theorem wml_X5_98 : Cond.methodLink RX5 98 yX5_passDay ∈ wsU := wu_t (tm3 (List.mem_of_getElem? (i := 43) (by decide +kernel))) rfl
theorem wml_L_70 : Cond.methodLink RL 70 yX10_sinks ∈ wsU := wu_t (tm3 (List.mem_of_getElem? (i := 44) (by decide +kernel))) rfl
theorem wim_X10_sinks : Cond.instanceMethod yX10_sinks ∈ wsU := wu_t (tm3 (List.mem_of_getElem? (i := 45) (by decide +kernel))) rfl
theorem wse_X10_X10_sinks_X10_sinks : Cond.selects RX10 yX10_sinks yX10_sinks ∈ wsU := wu_t (tm3 (List.mem_of_getElem? (i := 46) (by decide +kernel))) rfl
theorem wcd_X10_sinks : Cond.code yX10_sinks cX10_sinks 4 (some FieldType.int) ∈ wsU := wu_t (tm3 (List.mem_of_getElem? (i := 47) (rfl))) rfl
theorem wml_L_74 : Cond.methodLink RL 74 yX10_walk ∈ wsU := wu_t (tm3 (List.mem_of_getElem? (i := 48) (by decide +kernel))) rfl
theorem wim_X10_walk : Cond.instanceMethod yX10_walk ∈ wsU := wu_t (tm3 (List.mem_of_getElem? (i := 49) (by decide +kernel))) rfl
theorem wse_X10_X10_walk_X10_walk : Cond.selects RX10 yX10_walk yX10_walk ∈ wsU := wu_t (tm3 (List.mem_of_getElem? (i := 50) (by decide +kernel))) rfl
theorem wcd_X10_walk : Cond.code yX10_walk cX10_walk 5 (some FieldType.int) ∈ wsU := wu_t (tm3 (List.mem_of_getElem? (i := 51) (rfl))) rfl
theorem wml_X10_148 : Cond.methodLink RX10 148 yX10_refuseWalk ∈ wsU := wu_t (tm3 (List.mem_of_getElem? (i := 52) (by decide +kernel))) rfl
theorem wim_X10_refuseWalk : Cond.instanceMethod yX10_refuseWalk ∈ wsU := wu_t (tm3 (List.mem_of_getElem? (i := 54) (by decide +kernel))) rfl
theorem wcd_X10_refuseWalk : Cond.code yX10_refuseWalk cX10_refuseWalk 3 (some FieldType.int) ∈ wsU := wu_t (tm3 (List.mem_of_getElem? (i := 55) (rfl))) rfl
theorem wml_X10_219 : Cond.methodLink RX10 219 yX10_isSheet ∈ wsU := wu_t (tm3 (List.mem_of_getElem? (i := 56) (by decide +kernel))) rfl
theorem wst_X10_isSheet : Cond.static yX10_isSheet ∈ wsU := wu_t (tm3 (List.mem_of_getElem? (i := 57) (by decide +kernel))) rfl
theorem wcd_X10_isSheet : Cond.code yX10_isSheet cX10_isSheet 1 (some FieldType.boolean) ∈ wsU := wu_t (tm3 (List.mem_of_getElem? (i := 58) (rfl))) rfl
theorem wmn_X10_263 : Cond.methodLinkNest RX10 263 yX6_tellsWalk RX10 ∈ nsU := ns_t (tm3 (List.mem_of_getElem? (i := 59) (by decide +kernel))) rfl
theorem wim_X6_tellsWalk : Cond.instanceMethod yX6_tellsWalk ∈ wsU := wu_t (tm3 (List.mem_of_getElem? (i := 61) (by decide +kernel))) rfl
theorem wcd_X6_tellsWalk : Cond.code yX6_tellsWalk cX6_tellsWalk 2 (some FieldType.boolean) ∈ wsU := wu_t (tm3 (List.mem_of_getElem? (i := 62) (rfl))) rfl
theorem wmn_X6_28 : Cond.methodLinkNest RX6 28 yX10_isCell RX10 ∈ nsU := ns_t (tm3 (List.mem_of_getElem? (i := 63) (by decide +kernel))) rfl
theorem wmn_X6_32 : Cond.methodLinkNest RX6 32 yX10_apart RX10 ∈ nsU := ns_t (tm3 (List.mem_of_getElem? (i := 64) (by decide +kernel))) rfl
theorem wml_X10_151 : Cond.methodLink RX10 151 yX10_feltOnWalk ∈ wsU := wu_t (tm3 (List.mem_of_getElem? (i := 65) (by decide +kernel))) rfl
theorem wim_X10_feltOnWalk : Cond.instanceMethod yX10_feltOnWalk ∈ wsU := wu_t (tm3 (List.mem_of_getElem? (i := 67) (by decide +kernel))) rfl
theorem wcd_X10_feltOnWalk : Cond.code yX10_feltOnWalk cX10_feltOnWalk 10 (some FieldType.int) ∈ wsU := wu_t (tm3 (List.mem_of_getElem? (i := 68) (rfl))) rfl
theorem wmn_X10_266 : Cond.methodLinkNest RX10 266 yX5_felt RX10 ∈ nsU := ns_t (tm3 (List.mem_of_getElem? (i := 69) (by decide +kernel))) rfl
theorem wim_X5_felt : Cond.instanceMethod yX5_felt ∈ wsU := wu_t (tm3 (List.mem_of_getElem? (i := 71) (by decide +kernel))) rfl
theorem wcd_X5_felt : Cond.code yX5_felt cX5_felt 3 (some FieldType.int) ∈ wsU := wu_t (tm3 (List.mem_of_getElem? (i := 72) (rfl))) rfl
theorem wml_X5_75 : Cond.methodLink RX5 75 yX3_feels ∈ wsU := wu_t (tm3 (List.mem_of_getElem? (i := 73) (by decide +kernel))) rfl
theorem wim_X3_feels : Cond.instanceMethod yX3_feels ∈ wsU := wu_t (tm3 (List.mem_of_getElem? (i := 74) (by decide +kernel))) rfl
theorem wse_X3_X3_feels_X3_feels : Cond.selects RX3 yX3_feels yX3_feels ∈ wsU := wu_t (tm3 (List.mem_of_getElem? (i := 75) (by decide +kernel))) rfl
theorem wsm_X3_X3_feels : Cond.sameMethod RX3 RX3 "feels" "(II)I" ∈ wsU := wu_t (tm3 (List.mem_of_getElem? (i := 76) (by decide +kernel))) rfl
theorem wse_X0_X3_feels_X0_feels : Cond.selects RX0 yX3_feels yX0_feels ∈ wsU := wu_t (tm3 (List.mem_of_getElem? (i := 77) (by decide +kernel))) rfl
theorem wim_X0_feels : Cond.instanceMethod yX0_feels ∈ wsU := wu_t (tm3 (List.mem_of_getElem? (i := 78) (by decide +kernel))) rfl
theorem wcd_X0_feels : Cond.code yX0_feels cX0_feels 3 (some FieldType.int) ∈ wsU := wu_t (tm3 (List.mem_of_getElem? (i := 79) (rfl))) rfl
theorem wml_X0_11 : Cond.methodLink RX0 11 yX3_feels ∈ wsU := wu_t (tm3 (List.mem_of_getElem? (i := 80) (by decide +kernel))) rfl
theorem wse_X1_X3_feels_X1_feels : Cond.selects RX1 yX3_feels yX1_feels ∈ wsU := wu_t (tm3 (List.mem_of_getElem? (i := 81) (by decide +kernel))) rfl
theorem wim_X1_feels : Cond.instanceMethod yX1_feels ∈ wsU := wu_t (tm3 (List.mem_of_getElem? (i := 82) (by decide +kernel))) rfl
theorem wcd_X1_feels : Cond.code yX1_feels cX1_feels 3 (some FieldType.int) ∈ wsU := wu_t (tm3 (List.mem_of_getElem? (i := 83) (rfl))) rfl
theorem wml_X1_11 : Cond.methodLink RX1 11 yX3_feels ∈ wsU := wu_t (tm3 (List.mem_of_getElem? (i := 84) (by decide +kernel))) rfl
theorem wse_X2_X3_feels_X2_feels : Cond.selects RX2 yX3_feels yX2_feels ∈ wsU := wu_t (tm3 (List.mem_of_getElem? (i := 85) (by decide +kernel))) rfl
theorem wim_X2_feels : Cond.instanceMethod yX2_feels ∈ wsU := wu_t (tm3 (List.mem_of_getElem? (i := 86) (by decide +kernel))) rfl
theorem wcd_X2_feels : Cond.code yX2_feels cX2_feels 3 (some FieldType.int) ∈ wsU := wu_t (tm3 (List.mem_of_getElem? (i := 87) (rfl))) rfl
theorem wml_X2_11 : Cond.methodLink RX2 11 yX3_feels ∈ wsU := wu_t (tm3 (List.mem_of_getElem? (i := 88) (by decide +kernel))) rfl
theorem wse_X7_X3_feels_X7_feels : Cond.selects RX7 yX3_feels yX7_feels ∈ wsU := wu_t (tm3 (List.mem_of_getElem? (i := 89) (by decide +kernel))) rfl
theorem wim_X7_feels : Cond.instanceMethod yX7_feels ∈ wsU := wu_t (tm3 (List.mem_of_getElem? (i := 90) (by decide +kernel))) rfl
theorem wcd_X7_feels : Cond.code yX7_feels cX7_feels 3 (some FieldType.int) ∈ wsU := wu_t (tm3 (List.mem_of_getElem? (i := 91) (rfl))) rfl
theorem wml_X7_11 : Cond.methodLink RX7 11 yX2_feels ∈ wsU := wu_t (tm3 (List.mem_of_getElem? (i := 92) (by decide +kernel))) rfl
theorem wse_X9_X3_feels_X0_feels : Cond.selects RX9 yX3_feels yX0_feels ∈ wsU := wu_t (tm3 (List.mem_of_getElem? (i := 93) (by decide +kernel))) rfl
theorem wcd_X3_feels : Cond.code yX3_feels cX3_feels 3 (some FieldType.int) ∈ wsU := wu_t (tm3 (List.mem_of_getElem? (i := 94) (rfl))) rfl
theorem wml_L_78 : Cond.methodLink RL 78 yX10_tread ∈ wsU := wu_t (tm3 (List.mem_of_getElem? (i := 95) (by decide +kernel))) rfl
theorem wim_X10_tread : Cond.instanceMethod yX10_tread ∈ wsU := wu_t (tm3 (List.mem_of_getElem? (i := 96) (by decide +kernel))) rfl
theorem wse_X10_X10_tread_X10_tread : Cond.selects RX10 yX10_tread yX10_tread ∈ wsU := wu_t (tm3 (List.mem_of_getElem? (i := 97) (by decide +kernel))) rfl
theorem wcd_X10_tread : Cond.code yX10_tread cX10_tread 7 (some FieldType.int) ∈ wsU := wu_t (tm3 (List.mem_of_getElem? (i := 98) (rfl))) rfl
theorem wmn_X10_159 : Cond.methodLinkNest RX10 159 yX5_wear RX10 ∈ nsU := ns_t (tm3 (List.mem_of_getElem? (i := 99) (by decide +kernel))) rfl
theorem wim_X5_wear : Cond.instanceMethod yX5_wear ∈ wsU := wu_t (tm3 (List.mem_of_getElem? (i := 101) (by decide +kernel))) rfl
theorem wcd_X5_wear : Cond.code yX5_wear cX5_wear 5 (some FieldType.int) ∈ wsU := wu_t (tm3 (List.mem_of_getElem? (i := 102) (rfl))) rfl
theorem wml_X5_81 : Cond.methodLink RX5 81 yX3_wears ∈ wsU := wu_t (tm3 (List.mem_of_getElem? (i := 103) (by decide +kernel))) rfl
theorem wim_X3_wears : Cond.instanceMethod yX3_wears ∈ wsU := wu_t (tm3 (List.mem_of_getElem? (i := 104) (by decide +kernel))) rfl
theorem wse_X3_X3_wears_X3_wears : Cond.selects RX3 yX3_wears yX3_wears ∈ wsU := wu_t (tm3 (List.mem_of_getElem? (i := 105) (by decide +kernel))) rfl
theorem wsm_X3_X3_wears : Cond.sameMethod RX3 RX3 "wears" "(III)I" ∈ wsU := wu_t (tm3 (List.mem_of_getElem? (i := 106) (by decide +kernel))) rfl
theorem wse_X0_X3_wears_X3_wears : Cond.selects RX0 yX3_wears yX3_wears ∈ wsU := wu_t (tm3 (List.mem_of_getElem? (i := 107) (by decide +kernel))) rfl
theorem wse_X1_X3_wears_X1_wears : Cond.selects RX1 yX3_wears yX1_wears ∈ wsU := wu_t (tm3 (List.mem_of_getElem? (i := 108) (by decide +kernel))) rfl
theorem wim_X1_wears : Cond.instanceMethod yX1_wears ∈ wsU := wu_t (tm3 (List.mem_of_getElem? (i := 109) (by decide +kernel))) rfl
theorem wcd_X1_wears : Cond.code yX1_wears cX1_wears 4 (some FieldType.int) ∈ wsU := wu_t (tm3 (List.mem_of_getElem? (i := 110) (rfl))) rfl
theorem wml_X1_7 : Cond.methodLink RX1 7 yX3_wears ∈ wsU := wu_t (tm3 (List.mem_of_getElem? (i := 111) (by decide +kernel))) rfl
theorem wse_X2_X3_wears_X2_wears : Cond.selects RX2 yX3_wears yX2_wears ∈ wsU := wu_t (tm3 (List.mem_of_getElem? (i := 112) (by decide +kernel))) rfl
theorem wim_X2_wears : Cond.instanceMethod yX2_wears ∈ wsU := wu_t (tm3 (List.mem_of_getElem? (i := 113) (by decide +kernel))) rfl
theorem wcd_X2_wears : Cond.code yX2_wears cX2_wears 4 (some FieldType.int) ∈ wsU := wu_t (tm3 (List.mem_of_getElem? (i := 114) (rfl))) rfl
theorem wml_X2_7 : Cond.methodLink RX2 7 yX3_wears ∈ wsU := wu_t (tm3 (List.mem_of_getElem? (i := 115) (by decide +kernel))) rfl
theorem wse_X7_X3_wears_X2_wears : Cond.selects RX7 yX3_wears yX2_wears ∈ wsU := wu_t (tm3 (List.mem_of_getElem? (i := 116) (by decide +kernel))) rfl
theorem wse_X9_X3_wears_X9_wears : Cond.selects RX9 yX3_wears yX9_wears ∈ wsU := wu_t (tm3 (List.mem_of_getElem? (i := 117) (by decide +kernel))) rfl
theorem wim_X9_wears : Cond.instanceMethod yX9_wears ∈ wsU := wu_t (tm3 (List.mem_of_getElem? (i := 118) (by decide +kernel))) rfl
theorem wcd_X9_wears : Cond.code yX9_wears cX9_wears 4 (some FieldType.int) ∈ wsU := wu_t (tm3 (List.mem_of_getElem? (i := 119) (rfl))) rfl
theorem wml_X9_11 : Cond.methodLink RX9 11 ⟨RX0, "wears", "(III)I"⟩ ∈ wsU := wu_t (tm3 (List.mem_of_getElem? (i := 120) (by decide +kernel))) rfl
theorem wsm_X0_X3_wears : Cond.sameMethod RX0 RX3 "wears" "(III)I" ∈ wsU := wu_t (tm3 (List.mem_of_getElem? (i := 121) (by decide +kernel))) rfl
theorem wcd_X3_wears : Cond.code yX3_wears cX3_wears 4 (some FieldType.int) ∈ wsU := wu_t (tm3 (List.mem_of_getElem? (i := 123) (rfl))) rfl
theorem wml_L_82 : Cond.methodLink RL 82 yX10_way ∈ wsU := wu_t (tm3 (List.mem_of_getElem? (i := 124) (by decide +kernel))) rfl
theorem wim_X10_way : Cond.instanceMethod yX10_way ∈ wsU := wu_t (tm3 (List.mem_of_getElem? (i := 125) (by decide +kernel))) rfl
theorem wse_X10_X10_way_X10_way : Cond.selects RX10 yX10_way yX10_way ∈ wsU := wu_t (tm3 (List.mem_of_getElem? (i := 126) (by decide +kernel))) rfl
theorem wcd_X10_way : Cond.code yX10_way cX10_way 7 (some FieldType.int) ∈ wsU := wu_t (tm3 (List.mem_of_getElem? (i := 127) (rfl))) rfl
theorem wmn_X10_162 : Cond.methodLinkNest RX10 162 yX5_leastFelt RX10 ∈ nsU := ns_t (tm3 (List.mem_of_getElem? (i := 128) (by decide +kernel))) rfl
theorem wim_X5_leastFelt : Cond.instanceMethod yX5_leastFelt ∈ wsU := wu_t (tm3 (List.mem_of_getElem? (i := 130) (by decide +kernel))) rfl
theorem wcd_X5_leastFelt : Cond.code yX5_leastFelt cX5_leastFelt 7 (some FieldType.int) ∈ wsU := wu_t (tm3 (List.mem_of_getElem? (i := 131) (rfl))) rfl
theorem wml_X5_115 : Cond.methodLink RX5 115 yX5_felt ∈ wsU := wu_t (tm3 (List.mem_of_getElem? (i := 132) (by decide +kernel))) rfl
theorem wct_X5_118 : Cond.constant RX5 118 (1000000) ∈ wsU := wu_t (tm3 (List.mem_of_getElem? (i := 133) (by decide +kernel))) rfl
theorem wml_X5_119 : Cond.methodLink RX5 119 yJ7_fill_53178 ∈ wsU := wu_t (tm3 (List.mem_of_getElem? (i := 134) (by decide +kernel))) rfl
theorem wst_J7_fill_53178 : Cond.static yJ7_fill_53178 ∈ wsU := wu_t (tm3 (List.mem_of_getElem? (i := 135) (by decide +kernel))) rfl
theorem wcd_J7_fill_53178 : Cond.code yJ7_fill_53178 cJ7_fill_53178 4 none ∈ wsU := wu_t (tm3 (List.mem_of_getElem? (i := 136) (rfl))) rfl
theorem wml_X5_125 : Cond.methodLink RX5 125 yX5_relax ∈ wsU := wu_t (tm3 (List.mem_of_getElem? (i := 137) (by decide +kernel))) rfl
theorem wim_X5_relax : Cond.instanceMethod yX5_relax ∈ wsU := wu_t (tm3 (List.mem_of_getElem? (i := 139) (by decide +kernel))) rfl
theorem wcd_X5_relax : Cond.code yX5_relax cX5_relax 5 (some FieldType.boolean) ∈ wsU := wu_t (tm3 (List.mem_of_getElem? (i := 140) (rfl))) rfl
theorem wmn_X10_165 : Cond.methodLinkNest RX10 165 yX5_fewestCells RX10 ∈ nsU := ns_t (tm3 (List.mem_of_getElem? (i := 141) (by decide +kernel))) rfl
theorem wim_X5_fewestCells : Cond.instanceMethod yX5_fewestCells ∈ wsU := wu_t (tm3 (List.mem_of_getElem? (i := 143) (by decide +kernel))) rfl
theorem wcd_X5_fewestCells : Cond.code yX5_fewestCells cX5_fewestCells 10 (some FieldType.int) ∈ wsU := wu_t (tm3 (List.mem_of_getElem? (i := 144) (rfl))) rfl
theorem wcl_X5_59 : Cond.constantLong RX5 59 (2) ∈ wsU := wu_t (tm3 (List.mem_of_getElem? (i := 145) (by decide +kernel))) rfl
theorem wmn_X5_129 : Cond.methodLinkNest RX5 129 yX10_grown RX10 ∈ nsU := ns_t (tm3 (List.mem_of_getElem? (i := 146) (by decide +kernel))) rfl
theorem wst_X10_grown : Cond.static yX10_grown ∈ wsU := wu_t (tm3 (List.mem_of_getElem? (i := 147) (by decide +kernel))) rfl
theorem wcd_X10_grown : Cond.code yX10_grown cX10_grown 4 (some FieldType.long) ∈ wsU := wu_t (tm3 (List.mem_of_getElem? (i := 148) (rfl))) rfl
theorem wcl_X10_277 : Cond.constantLong RX10 277 (-34905131041) ∈ wsU := wu_t (tm3 (List.mem_of_getElem? (i := 149) (by decide +kernel))) rfl
theorem wcl_X10_279 : Cond.constantLong RX10 279 (-1090785346) ∈ wsU := wu_t (tm3 (List.mem_of_getElem? (i := 150) (by decide +kernel))) rfl
theorem wml_L_87 : Cond.methodLink RL 87 yX10_heap ∈ wsU := wu_t (tm3 (List.mem_of_getElem? (i := 151) (by decide +kernel))) rfl
theorem wim_X10_heap : Cond.instanceMethod yX10_heap ∈ wsU := wu_t (tm3 (List.mem_of_getElem? (i := 152) (by decide +kernel))) rfl
theorem wse_X10_X10_heap_X10_heap : Cond.selects RX10 yX10_heap yX10_heap ∈ wsU := wu_t (tm3 (List.mem_of_getElem? (i := 153) (by decide +kernel))) rfl
theorem wcd_X10_heap : Cond.code yX10_heap cX10_heap 6 (some FieldType.long) ∈ wsU := wu_t (tm3 (List.mem_of_getElem? (i := 154) (rfl))) rfl
theorem wcl_X10_169 : Cond.constantLong RX10 169 (-4611686018427387904) ∈ wsU := wu_t (tm3 (List.mem_of_getElem? (i := 155) (by decide +kernel))) rfl
theorem wmn_X10_171 : Cond.methodLinkNest RX10 171 yX5_thickBy RX10 ∈ nsU := ns_t (tm3 (List.mem_of_getElem? (i := 156) (by decide +kernel))) rfl
theorem wim_X5_thickBy : Cond.instanceMethod yX5_thickBy ∈ wsU := wu_t (tm3 (List.mem_of_getElem? (i := 158) (by decide +kernel))) rfl
theorem wcd_X5_thickBy : Cond.code yX5_thickBy cX5_thickBy 5 (some FieldType.long) ∈ wsU := wu_t (tm3 (List.mem_of_getElem? (i := 159) (rfl))) rfl
theorem wml_X10_175 : Cond.methodLink RX10 175 yX10_spread ∈ wsU := wu_t (tm3 (List.mem_of_getElem? (i := 160) (by decide +kernel))) rfl
theorem wst_X10_spread : Cond.static yX10_spread ∈ wsU := wu_t (tm3 (List.mem_of_getElem? (i := 161) (by decide +kernel))) rfl
theorem wcd_X10_spread : Cond.code yX10_spread cX10_spread 7 (some FieldType.long) ∈ wsU := wu_t (tm3 (List.mem_of_getElem? (i := 162) (rfl))) rfl
theorem wml_X10_281 : Cond.methodLink RX10 281 yX10_grown ∈ wsU := wu_t (tm3 (List.mem_of_getElem? (i := 163) (by decide +kernel))) rfl
theorem wml_X10_179 : Cond.methodLink RX10 179 yJ13_bitCount_95d88 ∈ wsU := wu_t (tm3 (List.mem_of_getElem? (i := 164) (by decide +kernel))) rfl
theorem wst_J13_bitCount_95d88 : Cond.static yJ13_bitCount_95d88 ∈ wsU := wu_t (tm3 (List.mem_of_getElem? (i := 165) (by decide +kernel))) rfl
theorem wcd_J13_bitCount_95d88 : Cond.code yJ13_bitCount_95d88 cJ13_bitCount_95d88 2 (some FieldType.int) ∈ wsU := wu_t (tm3 (List.mem_of_getElem? (i := 166) (rfl))) rfl
theorem wcl_J13_314 : Cond.constantLong RJ13 314 (6148914691236517205) ∈ wsU := wu_t (tm3 (List.mem_of_getElem? (i := 167) (by decide +kernel))) rfl
theorem wcl_J13_316 : Cond.constantLong RJ13 316 (3689348814741910323) ∈ wsU := wu_t (tm3 (List.mem_of_getElem? (i := 168) (by decide +kernel))) rfl
theorem wcl_J13_318 : Cond.constantLong RJ13 318 (1085102592571150095) ∈ wsU := wu_t (tm3 (List.mem_of_getElem? (i := 169) (by decide +kernel))) rfl
theorem wmn_X10_185 : Cond.methodLinkNest RX10 185 yX5_totalOf RX10 ∈ nsU := ns_t (tm3 (List.mem_of_getElem? (i := 170) (by decide +kernel))) rfl
theorem wim_X5_totalOf : Cond.instanceMethod yX5_totalOf ∈ wsU := wu_t (tm3 (List.mem_of_getElem? (i := 172) (by decide +kernel))) rfl
theorem wcd_X5_totalOf : Cond.code yX5_totalOf cX5_totalOf 5 (some FieldType.int) ∈ wsU := wu_t (tm3 (List.mem_of_getElem? (i := 173) (rfl))) rfl
theorem wml_L_92 : Cond.methodLink RL 92 yX10_room ∈ wsU := wu_t (tm3 (List.mem_of_getElem? (i := 174) (by decide +kernel))) rfl
theorem wim_X10_room : Cond.instanceMethod yX10_room ∈ wsU := wu_t (tm3 (List.mem_of_getElem? (i := 175) (by decide +kernel))) rfl
theorem wse_X10_X10_room_X10_room : Cond.selects RX10 yX10_room yX10_room ∈ wsU := wu_t (tm3 (List.mem_of_getElem? (i := 176) (by decide +kernel))) rfl
theorem wcd_X10_room : Cond.code yX10_room cX10_room 3 (some FieldType.int) ∈ wsU := wu_t (tm3 (List.mem_of_getElem? (i := 177) (rfl))) rfl
theorem wmn_X10_188 : Cond.methodLinkNest RX10 188 yX5_thickestCell RX10 ∈ nsU := ns_t (tm3 (List.mem_of_getElem? (i := 178) (by decide +kernel))) rfl
theorem wim_X5_thickestCell : Cond.instanceMethod yX5_thickestCell ∈ wsU := wu_t (tm3 (List.mem_of_getElem? (i := 180) (by decide +kernel))) rfl
theorem wcd_X5_thickestCell : Cond.code yX5_thickestCell cX5_thickestCell 3 (some FieldType.int) ∈ wsU := wu_t (tm3 (List.mem_of_getElem? (i := 181) (rfl))) rfl
theorem wmn_X10_192 : Cond.methodLinkNest RX10 192 yX5_thinnestCell RX10 ∈ nsU := ns_t (tm3 (List.mem_of_getElem? (i := 182) (by decide +kernel))) rfl
theorem wim_X5_thinnestCell : Cond.instanceMethod yX5_thinnestCell ∈ wsU := wu_t (tm3 (List.mem_of_getElem? (i := 184) (by decide +kernel))) rfl
theorem wcd_X5_thinnestCell : Cond.code yX5_thinnestCell cX5_thinnestCell 3 (some FieldType.int) ∈ wsU := wu_t (tm3 (List.mem_of_getElem? (i := 185) (rfl))) rfl
theorem wmn_X10_195 : Cond.methodLinkNest RX10 195 yX5_heaps RX10 ∈ nsU := ns_t (tm3 (List.mem_of_getElem? (i := 186) (by decide +kernel))) rfl
theorem wim_X5_heaps : Cond.instanceMethod yX5_heaps ∈ wsU := wu_t (tm3 (List.mem_of_getElem? (i := 188) (by decide +kernel))) rfl
theorem wcd_X5_heaps : Cond.code yX5_heaps cX5_heaps 6 (some FieldType.int) ∈ wsU := wu_t (tm3 (List.mem_of_getElem? (i := 189) (rfl))) rfl
theorem wml_X5_133 : Cond.methodLink RX5 133 yX5_thickBy ∈ wsU := wu_t (tm3 (List.mem_of_getElem? (i := 190) (by decide +kernel))) rfl
theorem wmn_X5_137 : Cond.methodLinkNest RX5 137 yX10_spread RX10 ∈ nsU := ns_t (tm3 (List.mem_of_getElem? (i := 191) (by decide +kernel))) rfl
theorem wcl_X5_141 : Cond.constantLong RX5 141 (-1) ∈ wsU := wu_t (tm3 (List.mem_of_getElem? (i := 192) (by decide +kernel))) rfl
theorem wml_L_96 : Cond.methodLink RL 96 yX10_turn ∈ wsU := wu_t (tm3 (List.mem_of_getElem? (i := 193) (by decide +kernel))) rfl
theorem wim_X10_turn : Cond.instanceMethod yX10_turn ∈ wsU := wu_t (tm3 (List.mem_of_getElem? (i := 194) (by decide +kernel))) rfl
theorem wse_X10_X10_turn_X10_turn : Cond.selects RX10 yX10_turn yX10_turn ∈ wsU := wu_t (tm3 (List.mem_of_getElem? (i := 195) (by decide +kernel))) rfl
theorem wcd_X10_turn : Cond.code yX10_turn cX10_turn 7 (some FieldType.int) ∈ wsU := wu_t (tm3 (List.mem_of_getElem? (i := 196) (rfl))) rfl
theorem wmn_X10_198 : Cond.methodLinkNest RX10 198 yX5_dismiss RX10 ∈ nsU := ns_t (tm3 (List.mem_of_getElem? (i := 197) (by decide +kernel))) rfl
theorem wim_X5_dismiss : Cond.instanceMethod yX5_dismiss ∈ wsU := wu_t (tm3 (List.mem_of_getElem? (i := 199) (by decide +kernel))) rfl
theorem wcd_X5_dismiss : Cond.code yX5_dismiss cX5_dismiss 4 none ∈ wsU := wu_t (tm3 (List.mem_of_getElem? (i := 200) (rfl))) rfl
theorem wml_L_100 : Cond.methodLink RL 100 yX10_seats ∈ wsU := wu_t (tm3 (List.mem_of_getElem? (i := 201) (by decide +kernel))) rfl
theorem wim_X10_seats : Cond.instanceMethod yX10_seats ∈ wsU := wu_t (tm3 (List.mem_of_getElem? (i := 202) (by decide +kernel))) rfl
theorem wse_X10_X10_seats_X10_seats : Cond.selects RX10 yX10_seats yX10_seats ∈ wsU := wu_t (tm3 (List.mem_of_getElem? (i := 203) (by decide +kernel))) rfl
theorem wcd_X10_seats : Cond.code yX10_seats cX10_seats 8 (some FieldType.int) ∈ wsU := wu_t (tm3 (List.mem_of_getElem? (i := 204) (rfl))) rfl
theorem wml_X10_201 : Cond.methodLink RX10 201 yX10_suppose ∈ wsU := wu_t (tm3 (List.mem_of_getElem? (i := 205) (by decide +kernel))) rfl
theorem wim_X10_suppose : Cond.instanceMethod yX10_suppose ∈ wsU := wu_t (tm3 (List.mem_of_getElem? (i := 207) (by decide +kernel))) rfl
theorem wcd_X10_suppose : Cond.code yX10_suppose cX10_suppose 4 none ∈ wsU := wu_t (tm3 (List.mem_of_getElem? (i := 208) (rfl))) rfl
theorem wml_L_104 : Cond.methodLink RL 104 yX10_judge ∈ wsU := wu_t (tm3 (List.mem_of_getElem? (i := 209) (by decide +kernel))) rfl
theorem wim_X10_judge : Cond.instanceMethod yX10_judge ∈ wsU := wu_t (tm3 (List.mem_of_getElem? (i := 210) (by decide +kernel))) rfl
theorem wse_X10_X10_judge_X10_judge : Cond.selects RX10 yX10_judge yX10_judge ∈ wsU := wu_t (tm3 (List.mem_of_getElem? (i := 211) (by decide +kernel))) rfl
theorem wcd_X10_judge : Cond.code yX10_judge cX10_judge 4 (some FieldType.int) ∈ wsU := wu_t (tm3 (List.mem_of_getElem? (i := 212) (rfl))) rfl
theorem wml_X10_205 : Cond.methodLink RX10 205 yX10_refuseTale ∈ wsU := wu_t (tm3 (List.mem_of_getElem? (i := 213) (by decide +kernel))) rfl
theorem wim_X10_refuseTale : Cond.instanceMethod yX10_refuseTale ∈ wsU := wu_t (tm3 (List.mem_of_getElem? (i := 215) (by decide +kernel))) rfl
theorem wcd_X10_refuseTale : Cond.code yX10_refuseTale cX10_refuseTale 3 (some FieldType.int) ∈ wsU := wu_t (tm3 (List.mem_of_getElem? (i := 216) (rfl))) rfl
theorem wml_X10_208 : Cond.methodLink RX10 208 yX10_firstOtherwise ∈ wsU := wu_t (tm3 (List.mem_of_getElem? (i := 217) (by decide +kernel))) rfl
theorem wim_X10_firstOtherwise : Cond.instanceMethod yX10_firstOtherwise ∈ wsU := wu_t (tm3 (List.mem_of_getElem? (i := 219) (by decide +kernel))) rfl
theorem wcd_X10_firstOtherwise : Cond.code yX10_firstOtherwise cX10_firstOtherwise 4 (some FieldType.int) ∈ wsU := wu_t (tm3 (List.mem_of_getElem? (i := 220) (rfl))) rfl
theorem wml_L_108 : Cond.methodLink RL 108 yX10_kinds ∈ wsU := wu_t (tm3 (List.mem_of_getElem? (i := 221) (by decide +kernel))) rfl
theorem wim_X10_kinds : Cond.instanceMethod yX10_kinds ∈ wsU := wu_t (tm3 (List.mem_of_getElem? (i := 222) (by decide +kernel))) rfl
theorem wse_X10_X10_kinds_X10_kinds : Cond.selects RX10 yX10_kinds yX10_kinds ∈ wsU := wu_t (tm3 (List.mem_of_getElem? (i := 223) (by decide +kernel))) rfl
theorem wcd_X10_kinds : Cond.code yX10_kinds cX10_kinds 6 (some FieldType.int) ∈ wsU := wu_t (tm3 (List.mem_of_getElem? (i := 224) (rfl))) rfl
theorem wml_X10_212 : Cond.methodLink RX10 212 yX10_refuseTaleOf ∈ wsU := wu_t (tm3 (List.mem_of_getElem? (i := 225) (by decide +kernel))) rfl
theorem wim_X10_refuseTaleOf : Cond.instanceMethod yX10_refuseTaleOf ∈ wsU := wu_t (tm3 (List.mem_of_getElem? (i := 227) (by decide +kernel))) rfl
theorem wcd_X10_refuseTaleOf : Cond.code yX10_refuseTaleOf cX10_refuseTaleOf 5 (some FieldType.int) ∈ wsU := wu_t (tm3 (List.mem_of_getElem? (i := 228) (rfl))) rfl
theorem wml_X10_215 : Cond.methodLink RX10 215 yX10_fitting ∈ wsU := wu_t (tm3 (List.mem_of_getElem? (i := 229) (by decide +kernel))) rfl
theorem wim_X10_fitting : Cond.instanceMethod yX10_fitting ∈ wsU := wu_t (tm3 (List.mem_of_getElem? (i := 231) (by decide +kernel))) rfl
theorem wcd_X10_fitting : Cond.code yX10_fitting cX10_fitting 9 (some FieldType.long) ∈ wsU := wu_t (tm3 (List.mem_of_getElem? (i := 232) (rfl))) rfl
theorem wml_L_112 : Cond.methodLink RL 112 yX10_where ∈ wsU := wu_t (tm3 (List.mem_of_getElem? (i := 233) (by decide +kernel))) rfl
theorem wim_X10_where : Cond.instanceMethod yX10_where ∈ wsU := wu_t (tm3 (List.mem_of_getElem? (i := 234) (by decide +kernel))) rfl
theorem wse_X10_X10_where_X10_where : Cond.selects RX10 yX10_where yX10_where ∈ wsU := wu_t (tm3 (List.mem_of_getElem? (i := 235) (by decide +kernel))) rfl
theorem wcd_X10_where : Cond.code yX10_where cX10_where 4 (some FieldType.long) ∈ wsU := wu_t (tm3 (List.mem_of_getElem? (i := 236) (rfl))) rfl
theorem wml_L_116 : Cond.methodLink RL 116 yX10_holds ∈ wsU := wu_t (tm3 (List.mem_of_getElem? (i := 237) (by decide +kernel))) rfl
theorem wim_X10_holds : Cond.instanceMethod yX10_holds ∈ wsU := wu_t (tm3 (List.mem_of_getElem? (i := 238) (by decide +kernel))) rfl
theorem wse_X10_X10_holds_X10_holds : Cond.selects RX10 yX10_holds yX10_holds ∈ wsU := wu_t (tm3 (List.mem_of_getElem? (i := 239) (by decide +kernel))) rfl
theorem wcd_X10_holds : Cond.code yX10_holds cX10_holds 9 (some FieldType.int) ∈ wsU := wu_t (tm4 (List.mem_of_getElem? (i := 0) (rfl))) rfl
theorem wml_L_120 : Cond.methodLink RL 120 yX10_laws ∈ wsU := wu_t (tm4 (List.mem_of_getElem? (i := 1) (by decide +kernel))) rfl
theorem wim_X10_laws : Cond.instanceMethod yX10_laws ∈ wsU := wu_t (tm4 (List.mem_of_getElem? (i := 2) (by decide +kernel))) rfl
theorem wse_X10_X10_laws_X10_laws : Cond.selects RX10 yX10_laws yX10_laws ∈ wsU := wu_t (tm4 (List.mem_of_getElem? (i := 3) (by decide +kernel))) rfl
theorem wcd_X10_laws : Cond.code yX10_laws cX10_laws 6 (some FieldType.int) ∈ wsU := wu_t (tm4 (List.mem_of_getElem? (i := 4) (rfl))) rfl
theorem wml_L_124 : Cond.methodLink RL 124 yX10_film ∈ wsU := wu_t (tm4 (List.mem_of_getElem? (i := 5) (by decide +kernel))) rfl
theorem wim_X10_film : Cond.instanceMethod yX10_film ∈ wsU := wu_t (tm4 (List.mem_of_getElem? (i := 6) (by decide +kernel))) rfl
theorem wse_X10_X10_film_X10_film : Cond.selects RX10 yX10_film yX10_film ∈ wsU := wu_t (tm4 (List.mem_of_getElem? (i := 7) (by decide +kernel))) rfl
theorem wcd_X10_film : Cond.code yX10_film cX10_film 5 (some FieldType.int) ∈ wsU := wu_t (tm4 (List.mem_of_getElem? (i := 8) (rfl))) rfl
theorem wmn_X10_222 : Cond.methodLinkNest RX10 222 yX6_become RX10 ∈ nsU := ns_t (tm4 (List.mem_of_getElem? (i := 9) (by decide +kernel))) rfl
theorem wim_X6_become : Cond.instanceMethod yX6_become ∈ wsU := wu_t (tm4 (List.mem_of_getElem? (i := 11) (by decide +kernel))) rfl
theorem wcd_X6_become : Cond.code yX6_become cX6_become 3 none ∈ wsU := wu_t (tm4 (List.mem_of_getElem? (i := 12) (rfl))) rfl
theorem wml_X6_22 : Cond.methodLink RX6 22 yJ7_fill_53178 ∈ wsU := wu_t (tm4 (List.mem_of_getElem? (i := 13) (by decide +kernel))) rfl
theorem wmn_X10_225 : Cond.methodLinkNest RX10 225 yX6_write RX10 ∈ nsU := ns_t (tm4 (List.mem_of_getElem? (i := 14) (by decide +kernel))) rfl
theorem wim_X6_write : Cond.instanceMethod yX6_write ∈ wsU := wu_t (tm4 (List.mem_of_getElem? (i := 16) (by decide +kernel))) rfl
theorem wcd_X6_write : Cond.code yX6_write cX6_write 3 none ∈ wsU := wu_t (tm4 (List.mem_of_getElem? (i := 17) (rfl))) rfl
theorem wml_L_128 : Cond.methodLink RL 128 yX10_drawn ∈ wsU := wu_t (tm4 (List.mem_of_getElem? (i := 18) (by decide +kernel))) rfl
theorem wim_X10_drawn : Cond.instanceMethod yX10_drawn ∈ wsU := wu_t (tm4 (List.mem_of_getElem? (i := 19) (by decide +kernel))) rfl
theorem wse_X10_X10_drawn_X10_drawn : Cond.selects RX10 yX10_drawn yX10_drawn ∈ wsU := wu_t (tm4 (List.mem_of_getElem? (i := 20) (by decide +kernel))) rfl
theorem wcd_X10_drawn : Cond.code yX10_drawn cX10_drawn 6 (some FieldType.int) ∈ wsU := wu_t (tm4 (List.mem_of_getElem? (i := 21) (rfl))) rfl
theorem wct_X10_228 : Cond.constant RX10 228 (99999) ∈ wsU := wu_t (tm4 (List.mem_of_getElem? (i := 22) (by decide +kernel))) rfl
theorem wmn_X10_229 : Cond.methodLinkNest RX10 229 yX5_wander RX10 ∈ nsU := ns_t (tm4 (List.mem_of_getElem? (i := 23) (by decide +kernel))) rfl
theorem wim_X5_wander : Cond.instanceMethod yX5_wander ∈ wsU := wu_t (tm4 (List.mem_of_getElem? (i := 25) (by decide +kernel))) rfl
theorem wcd_X5_wander : Cond.code yX5_wander cX5_wander 10 (some FieldType.int) ∈ wsU := wu_t (tm4 (List.mem_of_getElem? (i := 26) (rfl))) rfl
theorem wml_X5_146 : Cond.methodLink RX5 146 yX5_wear ∈ wsU := wu_t (tm4 (List.mem_of_getElem? (i := 27) (by decide +kernel))) rfl
theorem wcl_X5_149 : Cond.constantLong RX5 149 (48271) ∈ wsU := wu_t (tm4 (List.mem_of_getElem? (i := 28) (by decide +kernel))) rfl
theorem wcl_X5_151 : Cond.constantLong RX5 151 (2147483647) ∈ wsU := wu_t (tm4 (List.mem_of_getElem? (i := 29) (by decide +kernel))) rfl
theorem wcl_X5_153 : Cond.constantLong RX5 153 (4) ∈ wsU := wu_t (tm4 (List.mem_of_getElem? (i := 30) (by decide +kernel))) rfl
theorem wml_L_132 : Cond.methodLink RL 132 yX10_odds ∈ wsU := wu_t (tm4 (List.mem_of_getElem? (i := 31) (by decide +kernel))) rfl
theorem wim_X10_odds : Cond.instanceMethod yX10_odds ∈ wsU := wu_t (tm4 (List.mem_of_getElem? (i := 32) (by decide +kernel))) rfl
theorem wse_X10_X10_odds_X10_odds : Cond.selects RX10 yX10_odds yX10_odds ∈ wsU := wu_t (tm4 (List.mem_of_getElem? (i := 33) (by decide +kernel))) rfl
theorem wcd_X10_odds : Cond.code yX10_odds cX10_odds 9 (some FieldType.long) ∈ wsU := wu_t (tm4 (List.mem_of_getElem? (i := 34) (rfl))) rfl
theorem wct_X10_235 : Cond.constant RX10 235 (9999999) ∈ wsU := wu_t (tm4 (List.mem_of_getElem? (i := 35) (by decide +kernel))) rfl
theorem wml_X10_236 : Cond.methodLink RX10 236 yX10_lowest ∈ wsU := wu_t (tm4 (List.mem_of_getElem? (i := 36) (by decide +kernel))) rfl
theorem wst_X10_lowest : Cond.static yX10_lowest ∈ wsU := wu_t (tm4 (List.mem_of_getElem? (i := 37) (by decide +kernel))) rfl
theorem wcd_X10_lowest : Cond.code yX10_lowest cX10_lowest 7 (some FieldType.long) ∈ wsU := wu_t (tm4 (List.mem_of_getElem? (i := 38) (rfl))) rfl
theorem wml_X10_269 : Cond.methodLink RX10 269 yJ9_max_7cf53 ∈ wsU := wu_t (tm4 (List.mem_of_getElem? (i := 39) (by decide +kernel))) rfl
theorem wml_L_137 : Cond.methodLink RL 137 yX10_share ∈ wsU := wu_t (tm4 (List.mem_of_getElem? (i := 40) (by decide +kernel))) rfl
theorem wim_X10_share : Cond.instanceMethod yX10_share ∈ wsU := wu_t (tm4 (List.mem_of_getElem? (i := 41) (by decide +kernel))) rfl
theorem wse_X10_X10_share_X10_share : Cond.selects RX10 yX10_share yX10_share ∈ wsU := wu_t (tm4 (List.mem_of_getElem? (i := 42) (by decide +kernel))) rfl
theorem wcd_X10_share : Cond.code yX10_share cX10_share 4 (some FieldType.long) ∈ wsU := wu_t (tm4 (List.mem_of_getElem? (i := 43) (rfl))) rfl
theorem wml_L_142 : Cond.methodLink RL 142 yX10_image ∈ wsU := wu_t (tm4 (List.mem_of_getElem? (i := 44) (by decide +kernel))) rfl
theorem wim_X10_image : Cond.instanceMethod yX10_image ∈ wsU := wu_t (tm4 (List.mem_of_getElem? (i := 45) (by decide +kernel))) rfl
theorem wse_X10_X10_image_X10_image : Cond.selects RX10 yX10_image yX10_image ∈ wsU := wu_t (tm4 (List.mem_of_getElem? (i := 46) (by decide +kernel))) rfl
theorem wcd_X10_image : Cond.code yX10_image cX10_image 1 (some FieldType.int) ∈ wsU := wu_t (tm4 (List.mem_of_getElem? (i := 47) (rfl))) rfl
theorem wml_L_146 : Cond.methodLink RL 146 yX10_back ∈ wsU := wu_t (tm4 (List.mem_of_getElem? (i := 48) (by decide +kernel))) rfl
theorem wim_X10_back : Cond.instanceMethod yX10_back ∈ wsU := wu_t (tm4 (List.mem_of_getElem? (i := 49) (by decide +kernel))) rfl
theorem wse_X10_X10_back_X10_back : Cond.selects RX10 yX10_back yX10_back ∈ wsU := wu_t (tm4 (List.mem_of_getElem? (i := 50) (by decide +kernel))) rfl
theorem wcd_X10_back : Cond.code yX10_back cX10_back 1 (some FieldType.int) ∈ wsU := wu_t (tm4 (List.mem_of_getElem? (i := 51) (rfl))) rfl
theorem wml_L_150 : Cond.methodLink RL 150 yX10_sheet ∈ wsU := wu_t (tm4 (List.mem_of_getElem? (i := 52) (by decide +kernel))) rfl
theorem wim_X10_sheet : Cond.instanceMethod yX10_sheet ∈ wsU := wu_t (tm4 (List.mem_of_getElem? (i := 53) (by decide +kernel))) rfl
theorem wse_X10_X10_sheet_X10_sheet : Cond.selects RX10 yX10_sheet yX10_sheet ∈ wsU := wu_t (tm4 (List.mem_of_getElem? (i := 54) (by decide +kernel))) rfl
theorem wcd_X10_sheet : Cond.code yX10_sheet cX10_sheet 4 (some FieldType.int) ∈ wsU := wu_t (tm4 (List.mem_of_getElem? (i := 55) (rfl))) rfl
theorem wml_L_154 : Cond.methodLink RL 154 yX10_cell ∈ wsU := wu_t (tm4 (List.mem_of_getElem? (i := 56) (by decide +kernel))) rfl
theorem wim_X10_cell : Cond.instanceMethod yX10_cell ∈ wsU := wu_t (tm4 (List.mem_of_getElem? (i := 57) (by decide +kernel))) rfl
theorem wse_X10_X10_cell_X10_cell : Cond.selects RX10 yX10_cell yX10_cell ∈ wsU := wu_t (tm4 (List.mem_of_getElem? (i := 58) (by decide +kernel))) rfl
theorem wcd_X10_cell : Cond.code yX10_cell cX10_cell 4 (some FieldType.int) ∈ wsU := wu_t (tm4 (List.mem_of_getElem? (i := 59) (rfl))) rfl
theorem wml_L_158 : Cond.methodLink RL 158 yX10_copy ∈ wsU := wu_t (tm4 (List.mem_of_getElem? (i := 60) (by decide +kernel))) rfl
theorem wim_X10_copy : Cond.instanceMethod yX10_copy ∈ wsU := wu_t (tm4 (List.mem_of_getElem? (i := 61) (by decide +kernel))) rfl
theorem wse_X10_X10_copy_X10_copy : Cond.selects RX10 yX10_copy yX10_copy ∈ wsU := wu_t (tm4 (List.mem_of_getElem? (i := 62) (by decide +kernel))) rfl
theorem wcd_X10_copy : Cond.code yX10_copy cX10_copy 8 (some FieldType.int) ∈ wsU := wu_t (tm4 (List.mem_of_getElem? (i := 63) (rfl))) rfl
theorem wmn_X10_247 : Cond.methodLinkNest RX10 247 yX6_holdsRange RX10 ∈ nsU := ns_t (tm4 (List.mem_of_getElem? (i := 64) (by decide +kernel))) rfl
theorem wim_X6_holdsRange : Cond.instanceMethod yX6_holdsRange ∈ wsU := wu_t (tm4 (List.mem_of_getElem? (i := 66) (by decide +kernel))) rfl
theorem wcd_X6_holdsRange : Cond.code yX6_holdsRange cX6_holdsRange 3 (some FieldType.boolean) ∈ wsU := wu_t (tm4 (List.mem_of_getElem? (i := 67) (rfl))) rfl
theorem wml_X10_251 : Cond.methodLink RX10 251 ⟨RJ10, "arraycopy", "(Ljava/lang/Object;ILjava/lang/Object;II)V"⟩ ∈ wsU := wu_t (tm4 (List.mem_of_getElem? (i := 68) (by decide +kernel))) rfl
theorem wml_L_163 : Cond.methodLink RL 163 yX10_peopleBy ∈ wsU := wu_t (tm4 (List.mem_of_getElem? (i := 69) (by decide +kernel))) rfl
theorem wim_X10_peopleBy : Cond.instanceMethod yX10_peopleBy ∈ wsU := wu_t (tm4 (List.mem_of_getElem? (i := 70) (by decide +kernel))) rfl
theorem wse_X10_X10_peopleBy_X10_peopleBy : Cond.selects RX10 yX10_peopleBy yX10_peopleBy ∈ wsU := wu_t (tm4 (List.mem_of_getElem? (i := 71) (by decide +kernel))) rfl
theorem wcd_X10_peopleBy : Cond.code yX10_peopleBy cX10_peopleBy 9 (some FieldType.int) ∈ wsU := wu_t (tm4 (List.mem_of_getElem? (i := 72) (rfl))) rfl
theorem wml_X10_257 : Cond.methodLink RX10 257 yX10_person ∈ wsU := wu_t (tm4 (List.mem_of_getElem? (i := 73) (by decide +kernel))) rfl
theorem wml_L_167 : Cond.methodLink RL 167 yX10_taken ∈ wsU := wu_t (tm4 (List.mem_of_getElem? (i := 74) (by decide +kernel))) rfl
theorem wim_X10_taken : Cond.instanceMethod yX10_taken ∈ wsU := wu_t (tm4 (List.mem_of_getElem? (i := 75) (by decide +kernel))) rfl
theorem wse_X10_X10_taken_X10_taken : Cond.selects RX10 yX10_taken yX10_taken ∈ wsU := wu_t (tm4 (List.mem_of_getElem? (i := 76) (by decide +kernel))) rfl
theorem wcd_X10_taken : Cond.code yX10_taken cX10_taken 3 (some FieldType.int) ∈ wsU := wu_t (tm4 (List.mem_of_getElem? (i := 77) (rfl))) rfl
theorem wml_X10_260 : Cond.methodLink RX10 260 yX3_isOf ∈ wsU := wu_t (tm4 (List.mem_of_getElem? (i := 78) (by decide +kernel))) rfl
theorem wim_X3_isOf : Cond.instanceMethod yX3_isOf ∈ wsU := wu_t (tm4 (List.mem_of_getElem? (i := 79) (by decide +kernel))) rfl
theorem wse_X3_X3_isOf_X3_isOf : Cond.selects RX3 yX3_isOf yX3_isOf ∈ wsU := wu_t (tm4 (List.mem_of_getElem? (i := 80) (by decide +kernel))) rfl
theorem wsm_X3_X3_isOf : Cond.sameMethod RX3 RX3 "isOf" "(I)Z" ∈ wsU := wu_t (tm4 (List.mem_of_getElem? (i := 81) (by decide +kernel))) rfl
theorem wse_X0_X3_isOf_X0_isOf : Cond.selects RX0 yX3_isOf yX0_isOf ∈ wsU := wu_t (tm4 (List.mem_of_getElem? (i := 82) (by decide +kernel))) rfl
theorem wim_X0_isOf : Cond.instanceMethod yX0_isOf ∈ wsU := wu_t (tm4 (List.mem_of_getElem? (i := 83) (by decide +kernel))) rfl
theorem wcd_X0_isOf : Cond.code yX0_isOf cX0_isOf 2 (some FieldType.boolean) ∈ wsU := wu_t (tm4 (List.mem_of_getElem? (i := 84) (rfl))) rfl
theorem wml_X0_15 : Cond.methodLink RX0 15 yX3_isOf ∈ wsU := wu_t (tm4 (List.mem_of_getElem? (i := 85) (by decide +kernel))) rfl
theorem wse_X1_X3_isOf_X1_isOf : Cond.selects RX1 yX3_isOf yX1_isOf ∈ wsU := wu_t (tm4 (List.mem_of_getElem? (i := 86) (by decide +kernel))) rfl
theorem wim_X1_isOf : Cond.instanceMethod yX1_isOf ∈ wsU := wu_t (tm4 (List.mem_of_getElem? (i := 87) (by decide +kernel))) rfl
theorem wcd_X1_isOf : Cond.code yX1_isOf cX1_isOf 2 (some FieldType.boolean) ∈ wsU := wu_t (tm4 (List.mem_of_getElem? (i := 88) (rfl))) rfl
theorem wml_X1_15 : Cond.methodLink RX1 15 yX3_isOf ∈ wsU := wu_t (tm4 (List.mem_of_getElem? (i := 89) (by decide +kernel))) rfl
theorem wse_X2_X3_isOf_X2_isOf : Cond.selects RX2 yX3_isOf yX2_isOf ∈ wsU := wu_t (tm4 (List.mem_of_getElem? (i := 90) (by decide +kernel))) rfl
theorem wim_X2_isOf : Cond.instanceMethod yX2_isOf ∈ wsU := wu_t (tm4 (List.mem_of_getElem? (i := 91) (by decide +kernel))) rfl
theorem wcd_X2_isOf : Cond.code yX2_isOf cX2_isOf 2 (some FieldType.boolean) ∈ wsU := wu_t (tm4 (List.mem_of_getElem? (i := 92) (rfl))) rfl
theorem wml_X2_15 : Cond.methodLink RX2 15 yX3_isOf ∈ wsU := wu_t (tm4 (List.mem_of_getElem? (i := 93) (by decide +kernel))) rfl
theorem wse_X7_X3_isOf_X7_isOf : Cond.selects RX7 yX3_isOf yX7_isOf ∈ wsU := wu_t (tm4 (List.mem_of_getElem? (i := 94) (by decide +kernel))) rfl
theorem wim_X7_isOf : Cond.instanceMethod yX7_isOf ∈ wsU := wu_t (tm4 (List.mem_of_getElem? (i := 95) (by decide +kernel))) rfl
theorem wcd_X7_isOf : Cond.code yX7_isOf cX7_isOf 2 (some FieldType.boolean) ∈ wsU := wu_t (tm4 (List.mem_of_getElem? (i := 96) (rfl))) rfl
theorem wml_X7_15 : Cond.methodLink RX7 15 yX2_isOf ∈ wsU := wu_t (tm4 (List.mem_of_getElem? (i := 97) (by decide +kernel))) rfl
theorem wse_X9_X3_isOf_X9_isOf : Cond.selects RX9 yX3_isOf yX9_isOf ∈ wsU := wu_t (tm4 (List.mem_of_getElem? (i := 98) (by decide +kernel))) rfl
theorem wim_X9_isOf : Cond.instanceMethod yX9_isOf ∈ wsU := wu_t (tm4 (List.mem_of_getElem? (i := 99) (by decide +kernel))) rfl
theorem wcd_X9_isOf : Cond.code yX9_isOf cX9_isOf 2 (some FieldType.boolean) ∈ wsU := wu_t (tm4 (List.mem_of_getElem? (i := 100) (rfl))) rfl
theorem wml_X9_14 : Cond.methodLink RX9 14 yX0_isOf ∈ wsU := wu_t (tm4 (List.mem_of_getElem? (i := 101) (by decide +kernel))) rfl
theorem wcd_X3_isOf : Cond.code yX3_isOf cX3_isOf 2 (some FieldType.boolean) ∈ wsU := wu_t (tm4 (List.mem_of_getElem? (i := 102) (rfl))) rfl
theorem wml_L_12 : Cond.methodLink RL 12 yX11_init ∈ wsU := wu_t (tm4 (List.mem_of_getElem? (i := 105) (by decide +kernel))) rfl
theorem wim_X11_init : Cond.instanceMethod yX11_init ∈ wsU := wu_t (tm4 (List.mem_of_getElem? (i := 106) (by decide +kernel))) rfl
theorem wcd_X11_init : Cond.code yX11_init cX11_init 2 none ∈ wsU := wu_t (tm4 (List.mem_of_getElem? (i := 107) (rfl))) rfl
theorem wml_X11_1 : Cond.methodLink RX11 1 ⟨"java/lang/Object", "<init>", "()V"⟩ ∈ wsU := wu_t (tm4 (List.mem_of_getElem? (i := 108) (by decide +kernel))) rfl
theorem wml_X11_77 : Cond.methodLink RX11 77 yX11_text ∈ wsU := wu_t (tm4 (List.mem_of_getElem? (i := 109) (by decide +kernel))) rfl
theorem wim_X11_text : Cond.instanceMethod yX11_text ∈ wsU := wu_t (tm4 (List.mem_of_getElem? (i := 110) (by decide +kernel))) rfl
theorem wse_X11_X11_text_X11_text : Cond.selects RX11 yX11_text yX11_text ∈ wsU := wu_t (tm4 (List.mem_of_getElem? (i := 111) (by decide +kernel))) rfl
theorem wcd_X11_text : Cond.code yX11_text cX11_text 3 (some FieldType.int) ∈ wsU := wu_t (tm4 (List.mem_of_getElem? (i := 112) (rfl))) rfl
theorem wml_X11_149 : Cond.methodLink RX11 149 yX11_next ∈ wsU := wu_t (tm4 (List.mem_of_getElem? (i := 113) (by decide +kernel))) rfl
theorem wim_X11_next : Cond.instanceMethod yX11_next ∈ wsU := wu_t (tm4 (List.mem_of_getElem? (i := 115) (by decide +kernel))) rfl
theorem wcd_X11_next : Cond.code yX11_next cX11_next 3 none ∈ wsU := wu_t (tm4 (List.mem_of_getElem? (i := 116) (rfl))) rfl
theorem wml_X11_84 : Cond.methodLink RX11 84 yX11_in ∈ wsU := wu_t (tm4 (List.mem_of_getElem? (i := 117) (by decide +kernel))) rfl
theorem wst_X11_in : Cond.static yX11_in ∈ wsU := wu_t (tm4 (List.mem_of_getElem? (i := 118) (by decide +kernel))) rfl
theorem wcd_X11_in : Cond.code yX11_in cX11_in 3 (some FieldType.boolean) ∈ wsU := wu_t (tm4 (List.mem_of_getElem? (i := 119) (rfl))) rfl
theorem wml_X11_123 : Cond.methodLink RX11 123 yX11_wordFrom ∈ wsU := wu_t (tm4 (List.mem_of_getElem? (i := 120) (by decide +kernel))) rfl
theorem wim_X11_wordFrom : Cond.instanceMethod yX11_wordFrom ∈ wsU := wu_t (tm4 (List.mem_of_getElem? (i := 122) (by decide +kernel))) rfl
theorem wcd_X11_wordFrom : Cond.code yX11_wordFrom cX11_wordFrom 6 (some FieldType.int) ∈ wsU := wu_t (tm4 (List.mem_of_getElem? (i := 123) (rfl))) rfl
theorem wml_X11_162 : Cond.methodLink RX11 162 yX11_eRead ∈ wsU := wu_t (tm4 (List.mem_of_getElem? (i := 124) (by decide +kernel))) rfl
theorem wim_X11_eRead : Cond.instanceMethod yX11_eRead ∈ wsU := wu_t (tm4 (List.mem_of_getElem? (i := 126) (by decide +kernel))) rfl
theorem wcd_X11_eRead : Cond.code yX11_eRead cX11_eRead 4 (some FieldType.boolean) ∈ wsU := wu_t (tm4 (List.mem_of_getElem? (i := 127) (rfl))) rfl
theorem wct_X11_152 : Cond.constant RX11 152 (100000) ∈ wsU := wu_t (tm4 (List.mem_of_getElem? (i := 128) (by decide +kernel))) rfl
theorem wml_X11_139 : Cond.methodLink RX11 139 yX11_puts ∈ wsU := wu_t (tm4 (List.mem_of_getElem? (i := 129) (by decide +kernel))) rfl
theorem wim_X11_puts : Cond.instanceMethod yX11_puts ∈ wsU := wu_t (tm4 (List.mem_of_getElem? (i := 131) (by decide +kernel))) rfl
theorem wcd_X11_puts : Cond.code yX11_puts cX11_puts 2 none ∈ wsU := wu_t (tm4 (List.mem_of_getElem? (i := 132) (rfl))) rfl
theorem wml_X11_146 : Cond.methodLink RX11 146 yX11_unwinds ∈ wsU := wu_t (tm4 (List.mem_of_getElem? (i := 133) (by decide +kernel))) rfl
theorem wim_X11_unwinds : Cond.instanceMethod yX11_unwinds ∈ wsU := wu_t (tm4 (List.mem_of_getElem? (i := 135) (by decide +kernel))) rfl
theorem wcd_X11_unwinds : Cond.code yX11_unwinds cX11_unwinds 3 none ∈ wsU := wu_t (tm4 (List.mem_of_getElem? (i := 136) (rfl))) rfl
theorem wml_X11_132 : Cond.methodLink RX11 132 yX11_rank ∈ wsU := wu_t (tm4 (List.mem_of_getElem? (i := 137) (by decide +kernel))) rfl
theorem wst_X11_rank : Cond.static yX11_rank ∈ wsU := wu_t (tm4 (List.mem_of_getElem? (i := 138) (by decide +kernel))) rfl
theorem wcd_X11_rank : Cond.code yX11_rank cX11_rank 1 (some FieldType.int) ∈ wsU := wu_t (tm4 (List.mem_of_getElem? (i := 139) (rfl))) rfl
theorem wml_X11_153 : Cond.methodLink RX11 153 yX11_opensOne ∈ wsU := wu_t (tm4 (List.mem_of_getElem? (i := 140) (by decide +kernel))) rfl
theorem wim_X11_opensOne : Cond.instanceMethod yX11_opensOne ∈ wsU := wu_t (tm4 (List.mem_of_getElem? (i := 142) (by decide +kernel))) rfl
theorem wcd_X11_opensOne : Cond.code yX11_opensOne cX11_opensOne 2 (some FieldType.boolean) ∈ wsU := wu_t (tm4 (List.mem_of_getElem? (i := 143) (rfl))) rfl
theorem wml_X11_143 : Cond.methodLink RX11 143 yX11_holdsText ∈ wsU := wu_t (tm4 (List.mem_of_getElem? (i := 144) (by decide +kernel))) rfl
theorem wim_X11_holdsText : Cond.instanceMethod yX11_holdsText ∈ wsU := wu_t (tm4 (List.mem_of_getElem? (i := 146) (by decide +kernel))) rfl
theorem wcd_X11_holdsText : Cond.code yX11_holdsText cX11_holdsText 2 none ∈ wsU := wu_t (tm4 (List.mem_of_getElem? (i := 147) (rfl))) rfl
theorem wml_X11_156 : Cond.methodLink RX11 156 yX11_signOf ∈ wsU := wu_t (tm4 (List.mem_of_getElem? (i := 148) (by decide +kernel))) rfl
theorem wim_X11_signOf : Cond.instanceMethod yX11_signOf ∈ wsU := wu_t (tm4 (List.mem_of_getElem? (i := 150) (by decide +kernel))) rfl
theorem wcd_X11_signOf : Cond.code yX11_signOf cX11_signOf 1 (some FieldType.int) ∈ wsU := wu_t (tm4 (List.mem_of_getElem? (i := 151) (rfl))) rfl
theorem wml_X11_159 : Cond.methodLink RX11 159 yX11_between ∈ wsU := wu_t (tm4 (List.mem_of_getElem? (i := 152) (by decide +kernel))) rfl
theorem wim_X11_between : Cond.instanceMethod yX11_between ∈ wsU := wu_t (tm4 (List.mem_of_getElem? (i := 154) (by decide +kernel))) rfl
theorem wcd_X11_between : Cond.code yX11_between cX11_between 2 (some FieldType.boolean) ∈ wsU := wu_t (tm4 (List.mem_of_getElem? (i := 155) (rfl))) rfl
theorem wfl_X11_81 : Cond.fieldLink RX11 81 RX11 "people" "I" ∈ wsU := wu_t (tm4 (List.mem_of_getElem? (i := 156) (by decide +kernel))) rfl
theorem wfl_X11_7 : Cond.fieldLink RX11 7 RX11 "kind" "[I" ∈ wsU := wu_t (tm4 (List.mem_of_getElem? (i := 157) (by decide +kernel))) rfl
theorem wfl_X11_13 : Cond.fieldLink RX11 13 RX11 "moreOf" "[I" ∈ wsU := wu_t (tm4 (List.mem_of_getElem? (i := 158) (by decide +kernel))) rfl
theorem wfl_X11_16 : Cond.fieldLink RX11 16 RX11 "seat" "[I" ∈ wsU := wu_t (tm4 (List.mem_of_getElem? (i := 159) (by decide +kernel))) rfl
theorem wfl_X11_19 : Cond.fieldLink RX11 19 RX11 "back0" "[I" ∈ wsU := wu_t (tm4 (List.mem_of_getElem? (i := 160) (by decide +kernel))) rfl
theorem wfl_X11_22 : Cond.fieldLink RX11 22 RX11 "thick" "[I" ∈ wsU := wu_t (tm4 (List.mem_of_getElem? (i := 161) (by decide +kernel))) rfl
theorem wfl_X11_92 : Cond.fieldLink RX11 92 RX11 "days" "I" ∈ wsU := wu_t (tm4 (List.mem_of_getElem? (i := 162) (by decide +kernel))) rfl
theorem wfl_X11_25 : Cond.fieldLink RX11 25 RX11 "tape" "[I" ∈ wsU := wu_t (tm4 (List.mem_of_getElem? (i := 163) (by decide +kernel))) rfl
theorem wfl_X11_73 : Cond.fieldLink RX11 73 RX11 "taped" "I" ∈ wsU := wu_t (tm4 (List.mem_of_getElem? (i := 164) (by decide +kernel))) rfl
theorem wfl_X11_28 : Cond.fieldLink RX11 28 RX11 "codes" "[I" ∈ wsU := wu_t (tm4 (List.mem_of_getElem? (i := 165) (by decide +kernel))) rfl
theorem wfl_X11_31 : Cond.fieldLink RX11 31 RX11 "starts" "[I" ∈ wsU := wu_t (tm4 (List.mem_of_getElem? (i := 166) (by decide +kernel))) rfl
theorem wfl_X11_98 : Cond.fieldLink RX11 98 RX11 "texts" "I" ∈ wsU := wu_t (tm4 (List.mem_of_getElem? (i := 167) (by decide +kernel))) rfl
theorem wfl_X11_101 : Cond.fieldLink RX11 101 RX11 "rule" "I" ∈ wsU := wu_t (tm4 (List.mem_of_getElem? (i := 168) (by decide +kernel))) rfl
theorem wfl_X11_272 : Cond.fieldLink RX11 272 RX11 "hasImage" "Z" ∈ wsU := wu_t (tm4 (List.mem_of_getElem? (i := 169) (by decide +kernel))) rfl
theorem wfl_X11_34 : Cond.fieldLink RX11 34 RX11 "imageRows" "[I" ∈ wsU := wu_t (tm4 (List.mem_of_getElem? (i := 170) (by decide +kernel))) rfl
theorem wfl_X11_37 : Cond.fieldLink RX11 37 RX11 "imageHeld" "[I" ∈ wsU := wu_t (tm4 (List.mem_of_getElem? (i := 171) (by decide +kernel))) rfl
theorem wfl_X11_40 : Cond.fieldLink RX11 40 RX11 "sheetSort" "[I" ∈ wsU := wu_t (tm4 (List.mem_of_getElem? (i := 172) (by decide +kernel))) rfl
theorem wfl_X11_43 : Cond.fieldLink RX11 43 RX11 "sheetSize" "[I" ∈ wsU := wu_t (tm4 (List.mem_of_getElem? (i := 173) (by decide +kernel))) rfl
theorem wfl_X11_46 : Cond.fieldLink RX11 46 RX11 "cells" "[I" ∈ wsU := wu_t (tm4 (List.mem_of_getElem? (i := 174) (by decide +kernel))) rfl
theorem wfl_X11_49 : Cond.fieldLink RX11 49 RX11 "law" "[I" ∈ wsU := wu_t (tm4 (List.mem_of_getElem? (i := 175) (by decide +kernel))) rfl
theorem wfl_X11_111 : Cond.fieldLink RX11 111 RX11 "at" "I" ∈ wsU := wu_t (tm4 (List.mem_of_getElem? (i := 176) (by decide +kernel))) rfl
theorem wfl_X11_114 : Cond.fieldLink RX11 114 RX11 "begun" "I" ∈ wsU := wu_t (tm4 (List.mem_of_getElem? (i := 177) (by decide +kernel))) rfl
theorem wfl_X11_117 : Cond.fieldLink RX11 117 RX11 "token" "I" ∈ wsU := wu_t (tm4 (List.mem_of_getElem? (i := 178) (by decide +kernel))) rfl
theorem wfl_X11_120 : Cond.fieldLink RX11 120 RX11 "value" "I" ∈ wsU := wu_t (tm4 (List.mem_of_getElem? (i := 179) (by decide +kernel))) rfl
theorem wfl_X11_52 : Cond.fieldLink RX11 52 RX11 "words" "[I" ∈ wsU := wu_t (tm4 (List.mem_of_getElem? (i := 180) (by decide +kernel))) rfl
theorem wfl_X11_55 : Cond.fieldLink RX11 55 RX11 "held" "[I" ∈ wsU := wu_t (tm4 (List.mem_of_getElem? (i := 181) (by decide +kernel))) rfl
theorem wfl_X11_129 : Cond.fieldLink RX11 129 RX11 "heldMany" "I" ∈ wsU := wu_t (tm4 (List.mem_of_getElem? (i := 182) (by decide +kernel))) rfl
theorem wfl_X11_136 : Cond.fieldLink RX11 136 RX11 "opens" "I" ∈ wsU := wu_t (tm4 (List.mem_of_getElem? (i := 183) (by decide +kernel))) rfl
theorem wfl_X11_126 : Cond.fieldLink RX11 126 RX11 "out" "I" ∈ wsU := wu_t (tm4 (List.mem_of_getElem? (i := 184) (by decide +kernel))) rfl
theorem wfl_X11_58 : Cond.fieldLink RX11 58 RX11 "stack" "[I" ∈ wsU := wu_t (tm4 (List.mem_of_getElem? (i := 185) (by decide +kernel))) rfl
theorem wfl_X11_61 : Cond.fieldLink RX11 61 RX11 "named" "[I" ∈ wsU := wu_t (tm4 (List.mem_of_getElem? (i := 186) (by decide +kernel))) rfl
theorem wfl_X11_64 : Cond.fieldLink RX11 64 RX11 "kept" "[I" ∈ wsU := wu_t (tm4 (List.mem_of_getElem? (i := 187) (by decide +kernel))) rfl
theorem wfl_X11_67 : Cond.fieldLink RX11 67 RX11 "felt" "[I" ∈ wsU := wu_t (tm4 (List.mem_of_getElem? (i := 188) (by decide +kernel))) rfl
theorem wfl_X11_70 : Cond.fieldLink RX11 70 RX11 "wayTo" "[I" ∈ wsU := wu_t (tm4 (List.mem_of_getElem? (i := 189) (by decide +kernel))) rfl
theorem wfl_X11_247 : Cond.fieldLink RX11 247 RX11 "feltSum" "I" ∈ wsU := wu_t (tm4 (List.mem_of_getElem? (i := 190) (by decide +kernel))) rfl
theorem wfl_X11_250 : Cond.fieldLink RX11 250 RX11 "lastCell" "I" ∈ wsU := wu_t (tm4 (List.mem_of_getElem? (i := 191) (by decide +kernel))) rfl
theorem wsc_X11_java_lang_Object : Cond.superclass RX11 "java/lang/Object" ∈ wsU := wu_t (tm5 (List.mem_of_getElem? (i := 24) (by decide +kernel))) rfl
theorem wml_L_17 : Cond.methodLink RL 17 yX11_count ∈ wsU := wu_t (tm5 (List.mem_of_getElem? (i := 25) (by decide +kernel))) rfl
theorem wim_X11_count : Cond.instanceMethod yX11_count ∈ wsU := wu_t (tm5 (List.mem_of_getElem? (i := 26) (by decide +kernel))) rfl
theorem wse_X11_X11_count_X11_count : Cond.selects RX11 yX11_count yX11_count ∈ wsU := wu_t (tm5 (List.mem_of_getElem? (i := 27) (by decide +kernel))) rfl
theorem wcd_X11_count : Cond.code yX11_count cX11_count 2 (some FieldType.int) ∈ wsU := wu_t (tm5 (List.mem_of_getElem? (i := 28) (rfl))) rfl
theorem wml_X11_95 : Cond.methodLink RX11 95 yX11_allOf ∈ wsU := wu_t (tm5 (List.mem_of_getElem? (i := 29) (by decide +kernel))) rfl
theorem wim_X11_allOf : Cond.instanceMethod yX11_allOf ∈ wsU := wu_t (tm5 (List.mem_of_getElem? (i := 31) (by decide +kernel))) rfl
theorem wcd_X11_allOf : Cond.code yX11_allOf cX11_allOf 3 (some FieldType.int) ∈ wsU := wu_t (tm5 (List.mem_of_getElem? (i := 32) (rfl))) rfl
theorem wml_L_22 : Cond.methodLink RL 22 yX11_lay ∈ wsU := wu_t (tm5 (List.mem_of_getElem? (i := 33) (by decide +kernel))) rfl
theorem wim_X11_lay : Cond.instanceMethod yX11_lay ∈ wsU := wu_t (tm5 (List.mem_of_getElem? (i := 34) (by decide +kernel))) rfl
theorem wse_X11_X11_lay_X11_lay : Cond.selects RX11 yX11_lay yX11_lay ∈ wsU := wu_t (tm5 (List.mem_of_getElem? (i := 35) (by decide +kernel))) rfl
theorem wcd_X11_lay : Cond.code yX11_lay cX11_lay 4 (some FieldType.int) ∈ wsU := wu_t (tm5 (List.mem_of_getElem? (i := 36) (rfl))) rfl
theorem wml_X11_104 : Cond.methodLink RX11 104 yX11_isCell ∈ wsU := wu_t (tm5 (List.mem_of_getElem? (i := 37) (by decide +kernel))) rfl
theorem wst_X11_isCell : Cond.static yX11_isCell ∈ wsU := wu_t (tm5 (List.mem_of_getElem? (i := 38) (by decide +kernel))) rfl
theorem wcd_X11_isCell : Cond.code yX11_isCell cX11_isCell 1 (some FieldType.boolean) ∈ wsU := wu_t (tm5 (List.mem_of_getElem? (i := 39) (rfl))) rfl
theorem wml_L_26 : Cond.methodLink RL 26 yX11_under ∈ wsU := wu_t (tm5 (List.mem_of_getElem? (i := 40) (by decide +kernel))) rfl
theorem wim_X11_under : Cond.instanceMethod yX11_under ∈ wsU := wu_t (tm5 (List.mem_of_getElem? (i := 41) (by decide +kernel))) rfl
theorem wse_X11_X11_under_X11_under : Cond.selects RX11 yX11_under yX11_under ∈ wsU := wu_t (tm5 (List.mem_of_getElem? (i := 42) (by decide +kernel))) rfl
theorem wcd_X11_under : Cond.code yX11_under cX11_under 2 (some FieldType.int) ∈ wsU := wu_t (tm5 (List.mem_of_getElem? (i := 43) (rfl))) rfl
theorem wml_L_31 : Cond.methodLink RL 31 yX11_feed ∈ wsU := wu_t (tm5 (List.mem_of_getElem? (i := 44) (by decide +kernel))) rfl
theorem wim_X11_feed : Cond.instanceMethod yX11_feed ∈ wsU := wu_t (tm5 (List.mem_of_getElem? (i := 45) (by decide +kernel))) rfl
theorem wse_X11_X11_feed_X11_feed : Cond.selects RX11 yX11_feed yX11_feed ∈ wsU := wu_t (tm5 (List.mem_of_getElem? (i := 46) (by decide +kernel))) rfl
theorem wcd_X11_feed : Cond.code yX11_feed cX11_feed 8 (some FieldType.int) ∈ wsU := wu_t (tm5 (List.mem_of_getElem? (i := 47) (rfl))) rfl
theorem wml_X11_108 : Cond.methodLink RX11 108 yX11_isByte ∈ wsU := wu_t (tm5 (List.mem_of_getElem? (i := 48) (by decide +kernel))) rfl
theorem wst_X11_isByte : Cond.static yX11_isByte ∈ wsU := wu_t (tm5 (List.mem_of_getElem? (i := 49) (by decide +kernel))) rfl
theorem wcd_X11_isByte : Cond.code yX11_isByte cX11_isByte 1 (some FieldType.boolean) ∈ wsU := wu_t (tm5 (List.mem_of_getElem? (i := 50) (rfl))) rfl
theorem wml_L_36 : Cond.methodLink RL 36 yX11_text ∈ wsU := wu_t (tm5 (List.mem_of_getElem? (i := 51) (by decide +kernel))) rfl
theorem wml_L_40 : Cond.methodLink RL 40 yX11_force ∈ wsU := wu_t (tm5 (List.mem_of_getElem? (i := 52) (by decide +kernel))) rfl
theorem wim_X11_force : Cond.instanceMethod yX11_force ∈ wsU := wu_t (tm5 (List.mem_of_getElem? (i := 53) (by decide +kernel))) rfl
theorem wse_X11_X11_force_X11_force : Cond.selects RX11 yX11_force yX11_force ∈ wsU := wu_t (tm5 (List.mem_of_getElem? (i := 54) (by decide +kernel))) rfl
theorem wcd_X11_force : Cond.code yX11_force cX11_force 3 (some FieldType.int) ∈ wsU := wu_t (tm5 (List.mem_of_getElem? (i := 55) (rfl))) rfl
theorem wml_L_45 : Cond.methodLink RL 45 yX11_asks ∈ wsU := wu_t (tm5 (List.mem_of_getElem? (i := 56) (by decide +kernel))) rfl
theorem wim_X11_asks : Cond.instanceMethod yX11_asks ∈ wsU := wu_t (tm5 (List.mem_of_getElem? (i := 57) (by decide +kernel))) rfl
theorem wse_X11_X11_asks_X11_asks : Cond.selects RX11 yX11_asks yX11_asks ∈ wsU := wu_t (tm5 (List.mem_of_getElem? (i := 58) (by decide +kernel))) rfl
theorem wcd_X11_asks : Cond.code yX11_asks cX11_asks 4 (some FieldType.int) ∈ wsU := wu_t (tm5 (List.mem_of_getElem? (i := 59) (rfl))) rfl
theorem wml_X11_176 : Cond.methodLink RX11 176 yX11_isOne ∈ wsU := wu_t (tm5 (List.mem_of_getElem? (i := 60) (by decide +kernel))) rfl
theorem wim_X11_isOne : Cond.instanceMethod yX11_isOne ∈ wsU := wu_t (tm5 (List.mem_of_getElem? (i := 62) (by decide +kernel))) rfl
theorem wcd_X11_isOne : Cond.code yX11_isOne cX11_isOne 2 (some FieldType.boolean) ∈ wsU := wu_t (tm5 (List.mem_of_getElem? (i := 63) (rfl))) rfl
theorem wml_X11_179 : Cond.methodLink RX11 179 yX11_asksOf ∈ wsU := wu_t (tm5 (List.mem_of_getElem? (i := 64) (by decide +kernel))) rfl
theorem wim_X11_asksOf : Cond.instanceMethod yX11_asksOf ∈ wsU := wu_t (tm5 (List.mem_of_getElem? (i := 66) (by decide +kernel))) rfl
theorem wcd_X11_asksOf : Cond.code yX11_asksOf cX11_asksOf 4 (some FieldType.int) ∈ wsU := wu_t (tm5 (List.mem_of_getElem? (i := 67) (rfl))) rfl
theorem wml_X11_170 : Cond.methodLink RX11 170 yX11_says ∈ wsU := wu_t (tm5 (List.mem_of_getElem? (i := 68) (by decide +kernel))) rfl
theorem wim_X11_says : Cond.instanceMethod yX11_says ∈ wsU := wu_t (tm5 (List.mem_of_getElem? (i := 70) (by decide +kernel))) rfl
theorem wcd_X11_says : Cond.code yX11_says cX11_says 5 (some FieldType.int) ∈ wsU := wu_t (tm5 (List.mem_of_getElem? (i := 71) (rfl))) rfl
theorem wml_X11_166 : Cond.methodLink RX11 166 yX11_two ∈ wsU := wu_t (tm5 (List.mem_of_getElem? (i := 72) (by decide +kernel))) rfl
theorem wst_X11_two : Cond.static yX11_two ∈ wsU := wu_t (tm5 (List.mem_of_getElem? (i := 73) (by decide +kernel))) rfl
theorem wcd_X11_two : Cond.code yX11_two cX11_two 3 (some FieldType.int) ∈ wsU := wu_t (tm5 (List.mem_of_getElem? (i := 74) (rfl))) rfl
theorem wml_X11_173 : Cond.methodLink RX11 173 yX11_within ∈ wsU := wu_t (tm5 (List.mem_of_getElem? (i := 75) (by decide +kernel))) rfl
theorem wst_X11_within : Cond.static yX11_within ∈ wsU := wu_t (tm5 (List.mem_of_getElem? (i := 76) (by decide +kernel))) rfl
theorem wcd_X11_within : Cond.code yX11_within cX11_within 3 (some FieldType.int) ∈ wsU := wu_t (tm5 (List.mem_of_getElem? (i := 77) (rfl))) rfl
theorem wml_L_49 : Cond.methodLink RL 49 yX11_person ∈ wsU := wu_t (tm5 (List.mem_of_getElem? (i := 78) (by decide +kernel))) rfl
theorem wim_X11_person : Cond.instanceMethod yX11_person ∈ wsU := wu_t (tm5 (List.mem_of_getElem? (i := 79) (by decide +kernel))) rfl
theorem wse_X11_X11_person_X11_person : Cond.selects RX11 yX11_person yX11_person ∈ wsU := wu_t (tm5 (List.mem_of_getElem? (i := 80) (by decide +kernel))) rfl
theorem wcd_X11_person : Cond.code yX11_person cX11_person 3 (some FieldType.int) ∈ wsU := wu_t (tm5 (List.mem_of_getElem? (i := 81) (rfl))) rfl
theorem wml_L_53 : Cond.methodLink RL 53 yX11_put ∈ wsU := wu_t (tm5 (List.mem_of_getElem? (i := 82) (by decide +kernel))) rfl
theorem wim_X11_put : Cond.instanceMethod yX11_put ∈ wsU := wu_t (tm5 (List.mem_of_getElem? (i := 83) (by decide +kernel))) rfl
theorem wse_X11_X11_put_X11_put : Cond.selects RX11 yX11_put yX11_put ∈ wsU := wu_t (tm5 (List.mem_of_getElem? (i := 84) (by decide +kernel))) rfl
theorem wcd_X11_put : Cond.code yX11_put cX11_put 5 (some FieldType.int) ∈ wsU := wu_t (tm5 (List.mem_of_getElem? (i := 85) (rfl))) rfl
theorem wml_L_57 : Cond.methodLink RL 57 yX11_told ∈ wsU := wu_t (tm5 (List.mem_of_getElem? (i := 86) (by decide +kernel))) rfl
theorem wim_X11_told : Cond.instanceMethod yX11_told ∈ wsU := wu_t (tm5 (List.mem_of_getElem? (i := 87) (by decide +kernel))) rfl
theorem wse_X11_X11_told_X11_told : Cond.selects RX11 yX11_told yX11_told ∈ wsU := wu_t (tm5 (List.mem_of_getElem? (i := 88) (by decide +kernel))) rfl
theorem wcd_X11_told : Cond.code yX11_told cX11_told 3 (some FieldType.int) ∈ wsU := wu_t (tm5 (List.mem_of_getElem? (i := 89) (rfl))) rfl
theorem wml_L_61 : Cond.methodLink RL 61 yX11_day ∈ wsU := wu_t (tm5 (List.mem_of_getElem? (i := 90) (by decide +kernel))) rfl
theorem wim_X11_day : Cond.instanceMethod yX11_day ∈ wsU := wu_t (tm5 (List.mem_of_getElem? (i := 91) (by decide +kernel))) rfl
theorem wse_X11_X11_day_X11_day : Cond.selects RX11 yX11_day yX11_day ∈ wsU := wu_t (tm5 (List.mem_of_getElem? (i := 92) (by decide +kernel))) rfl
theorem wcd_X11_day : Cond.code yX11_day cX11_day 1 (some FieldType.int) ∈ wsU := wu_t (tm5 (List.mem_of_getElem? (i := 93) (rfl))) rfl
theorem wml_X11_191 : Cond.methodLink RX11 191 yX11_dayBut ∈ wsU := wu_t (tm5 (List.mem_of_getElem? (i := 94) (by decide +kernel))) rfl
theorem wim_X11_dayBut : Cond.instanceMethod yX11_dayBut ∈ wsU := wu_t (tm5 (List.mem_of_getElem? (i := 96) (by decide +kernel))) rfl
theorem wcd_X11_dayBut : Cond.code yX11_dayBut cX11_dayBut 3 none ∈ wsU := wu_t (tm5 (List.mem_of_getElem? (i := 97) (rfl))) rfl
theorem wml_X11_188 : Cond.methodLink RX11 188 yX11_turnOf ∈ wsU := wu_t (tm5 (List.mem_of_getElem? (i := 98) (by decide +kernel))) rfl
theorem wim_X11_turnOf : Cond.instanceMethod yX11_turnOf ∈ wsU := wu_t (tm5 (List.mem_of_getElem? (i := 100) (by decide +kernel))) rfl
theorem wcd_X11_turnOf : Cond.code yX11_turnOf cX11_turnOf 5 none ∈ wsU := wu_t (tm5 (List.mem_of_getElem? (i := 101) (rfl))) rfl
theorem wml_X11_182 : Cond.methodLink RX11 182 yX11_apart ∈ wsU := wu_t (tm5 (List.mem_of_getElem? (i := 102) (by decide +kernel))) rfl
theorem wst_X11_apart : Cond.static yX11_apart ∈ wsU := wu_t (tm5 (List.mem_of_getElem? (i := 103) (by decide +kernel))) rfl
theorem wcd_X11_apart : Cond.code yX11_apart cX11_apart 2 (some FieldType.int) ∈ wsU := wu_t (tm5 (List.mem_of_getElem? (i := 104) (rfl))) rfl
theorem wml_X11_88 : Cond.methodLink RX11 88 yX11_without0 ∈ wsU := wu_t (tm5 (List.mem_of_getElem? (i := 105) (by decide +kernel))) rfl
theorem wst_X11_without0 : Cond.static yX11_without0 ∈ wsU := wu_t (tm5 (List.mem_of_getElem? (i := 106) (by decide +kernel))) rfl
theorem wcd_X11_without0 : Cond.code yX11_without0 cX11_without0 2 (some FieldType.int) ∈ wsU := wu_t (tm5 (List.mem_of_getElem? (i := 107) (rfl))) rfl
theorem wml_X11_185 : Cond.methodLink RX11 185 yX11_leavesAt ∈ wsU := wu_t (tm5 (List.mem_of_getElem? (i := 108) (by decide +kernel))) rfl
theorem wim_X11_leavesAt : Cond.instanceMethod yX11_leavesAt ∈ wsU := wu_t (tm5 (List.mem_of_getElem? (i := 110) (by decide +kernel))) rfl
theorem wcd_X11_leavesAt : Cond.code yX11_leavesAt cX11_leavesAt 4 (some FieldType.int) ∈ wsU := wu_t (tm5 (List.mem_of_getElem? (i := 111) (rfl))) rfl
theorem wml_L_65 : Cond.methodLink RL 65 yX11_leaves ∈ wsU := wu_t (tm5 (List.mem_of_getElem? (i := 112) (by decide +kernel))) rfl
theorem wim_X11_leaves : Cond.instanceMethod yX11_leaves ∈ wsU := wu_t (tm5 (List.mem_of_getElem? (i := 113) (by decide +kernel))) rfl
theorem wse_X11_X11_leaves_X11_leaves : Cond.selects RX11 yX11_leaves yX11_leaves ∈ wsU := wu_t (tm5 (List.mem_of_getElem? (i := 114) (by decide +kernel))) rfl
theorem wcd_X11_leaves : Cond.code yX11_leaves cX11_leaves 9 (some FieldType.int) ∈ wsU := wu_t (tm5 (List.mem_of_getElem? (i := 115) (rfl))) rfl
theorem wml_L_69 : Cond.methodLink RL 69 yX11_run ∈ wsU := wu_t (tm5 (List.mem_of_getElem? (i := 116) (by decide +kernel))) rfl
theorem wim_X11_run : Cond.instanceMethod yX11_run ∈ wsU := wu_t (tm5 (List.mem_of_getElem? (i := 117) (by decide +kernel))) rfl
theorem wse_X11_X11_run_X11_run : Cond.selects RX11 yX11_run yX11_run ∈ wsU := wu_t (tm5 (List.mem_of_getElem? (i := 118) (by decide +kernel))) rfl
theorem wcd_X11_run : Cond.code yX11_run cX11_run 4 (some FieldType.int) ∈ wsU := wu_t (tm5 (List.mem_of_getElem? (i := 119) (rfl))) rfl
theorem wml_X11_194 : Cond.methodLink RX11 194 yX11_keeps ∈ wsU := wu_t (tm5 (List.mem_of_getElem? (i := 120) (by decide +kernel))) rfl
theorem wim_X11_keeps : Cond.instanceMethod yX11_keeps ∈ wsU := wu_t (tm5 (List.mem_of_getElem? (i := 122) (by decide +kernel))) rfl
theorem wcd_X11_keeps : Cond.code yX11_keeps cX11_keeps 2 none ∈ wsU := wu_t (tm5 (List.mem_of_getElem? (i := 123) (rfl))) rfl
theorem wml_X11_197 : Cond.methodLink RX11 197 yX11_lays ∈ wsU := wu_t (tm5 (List.mem_of_getElem? (i := 124) (by decide +kernel))) rfl
theorem wim_X11_lays : Cond.instanceMethod yX11_lays ∈ wsU := wu_t (tm5 (List.mem_of_getElem? (i := 126) (by decide +kernel))) rfl
theorem wcd_X11_lays : Cond.code yX11_lays cX11_lays 2 none ∈ wsU := wu_t (tm5 (List.mem_of_getElem? (i := 127) (rfl))) rfl
theorem wml_L_73 : Cond.methodLink RL 73 yX11_sinks ∈ wsU := wu_t (tm5 (List.mem_of_getElem? (i := 128) (by decide +kernel))) rfl
theorem wim_X11_sinks : Cond.instanceMethod yX11_sinks ∈ wsU := wu_t (tm5 (List.mem_of_getElem? (i := 129) (by decide +kernel))) rfl
theorem wse_X11_X11_sinks_X11_sinks : Cond.selects RX11 yX11_sinks yX11_sinks ∈ wsU := wu_t (tm5 (List.mem_of_getElem? (i := 130) (by decide +kernel))) rfl
theorem wcd_X11_sinks : Cond.code yX11_sinks cX11_sinks 5 (some FieldType.int) ∈ wsU := wu_t (tm5 (List.mem_of_getElem? (i := 131) (rfl))) rfl
theorem wml_L_77 : Cond.methodLink RL 77 yX11_walk ∈ wsU := wu_t (tm5 (List.mem_of_getElem? (i := 132) (by decide +kernel))) rfl
theorem wim_X11_walk : Cond.instanceMethod yX11_walk ∈ wsU := wu_t (tm5 (List.mem_of_getElem? (i := 133) (by decide +kernel))) rfl
theorem wse_X11_X11_walk_X11_walk : Cond.selects RX11 yX11_walk yX11_walk ∈ wsU := wu_t (tm5 (List.mem_of_getElem? (i := 134) (by decide +kernel))) rfl
theorem wcd_X11_walk : Cond.code yX11_walk cX11_walk 11 (some FieldType.int) ∈ wsU := wu_t (tm5 (List.mem_of_getElem? (i := 135) (rfl))) rfl
theorem wml_X11_200 : Cond.methodLink RX11 200 yX11_walkWrong ∈ wsU := wu_t (tm5 (List.mem_of_getElem? (i := 136) (by decide +kernel))) rfl
theorem wim_X11_walkWrong : Cond.instanceMethod yX11_walkWrong ∈ wsU := wu_t (tm5 (List.mem_of_getElem? (i := 138) (by decide +kernel))) rfl
theorem wcd_X11_walkWrong : Cond.code yX11_walkWrong cX11_walkWrong 6 (some FieldType.int) ∈ wsU := wu_t (tm5 (List.mem_of_getElem? (i := 139) (rfl))) rfl
theorem wml_X11_203 : Cond.methodLink RX11 203 yX11_feelsOf ∈ wsU := wu_t (tm5 (List.mem_of_getElem? (i := 140) (by decide +kernel))) rfl
theorem wim_X11_feelsOf : Cond.instanceMethod yX11_feelsOf ∈ wsU := wu_t (tm5 (List.mem_of_getElem? (i := 142) (by decide +kernel))) rfl
theorem wcd_X11_feelsOf : Cond.code yX11_feelsOf cX11_feelsOf 4 (some FieldType.int) ∈ wsU := wu_t (tm5 (List.mem_of_getElem? (i := 143) (rfl))) rfl
theorem wml_L_81 : Cond.methodLink RL 81 yX11_tread ∈ wsU := wu_t (tm5 (List.mem_of_getElem? (i := 144) (by decide +kernel))) rfl
theorem wim_X11_tread : Cond.instanceMethod yX11_tread ∈ wsU := wu_t (tm5 (List.mem_of_getElem? (i := 145) (by decide +kernel))) rfl
theorem wse_X11_X11_tread_X11_tread : Cond.selects RX11 yX11_tread yX11_tread ∈ wsU := wu_t (tm5 (List.mem_of_getElem? (i := 146) (by decide +kernel))) rfl
theorem wcd_X11_tread : Cond.code yX11_tread cX11_tread 6 (some FieldType.int) ∈ wsU := wu_t (tm5 (List.mem_of_getElem? (i := 147) (rfl))) rfl
theorem wml_X11_209 : Cond.methodLink RX11 209 yX11_wearsNow ∈ wsU := wu_t (tm5 (List.mem_of_getElem? (i := 148) (by decide +kernel))) rfl
theorem wim_X11_wearsNow : Cond.instanceMethod yX11_wearsNow ∈ wsU := wu_t (tm5 (List.mem_of_getElem? (i := 150) (by decide +kernel))) rfl
theorem wcd_X11_wearsNow : Cond.code yX11_wearsNow cX11_wearsNow 5 (some FieldType.int) ∈ wsU := wu_t (tm5 (List.mem_of_getElem? (i := 151) (rfl))) rfl
theorem wml_X11_206 : Cond.methodLink RX11 206 yX11_wearsOf ∈ wsU := wu_t (tm5 (List.mem_of_getElem? (i := 152) (by decide +kernel))) rfl
theorem wim_X11_wearsOf : Cond.instanceMethod yX11_wearsOf ∈ wsU := wu_t (tm5 (List.mem_of_getElem? (i := 154) (by decide +kernel))) rfl
theorem wcd_X11_wearsOf : Cond.code yX11_wearsOf cX11_wearsOf 4 (some FieldType.int) ∈ wsU := wu_t (tm5 (List.mem_of_getElem? (i := 155) (rfl))) rfl
theorem wml_L_86 : Cond.methodLink RL 86 yX11_way ∈ wsU := wu_t (tm5 (List.mem_of_getElem? (i := 156) (by decide +kernel))) rfl
theorem wim_X11_way : Cond.instanceMethod yX11_way ∈ wsU := wu_t (tm5 (List.mem_of_getElem? (i := 157) (by decide +kernel))) rfl
theorem wse_X11_X11_way_X11_way : Cond.selects RX11 yX11_way yX11_way ∈ wsU := wu_t (tm5 (List.mem_of_getElem? (i := 158) (by decide +kernel))) rfl
theorem wcd_X11_way : Cond.code yX11_way cX11_way 8 (some FieldType.int) ∈ wsU := wu_t (tm5 (List.mem_of_getElem? (i := 159) (rfl))) rfl
theorem wml_X11_212 : Cond.methodLink RX11 212 yX11_relaxes ∈ wsU := wu_t (tm5 (List.mem_of_getElem? (i := 160) (by decide +kernel))) rfl
theorem wim_X11_relaxes : Cond.instanceMethod yX11_relaxes ∈ wsU := wu_t (tm5 (List.mem_of_getElem? (i := 162) (by decide +kernel))) rfl
theorem wcd_X11_relaxes : Cond.code yX11_relaxes cX11_relaxes 4 (some FieldType.boolean) ∈ wsU := wu_t (tm5 (List.mem_of_getElem? (i := 163) (rfl))) rfl
theorem wml_L_91 : Cond.methodLink RL 91 yX11_heap ∈ wsU := wu_t (tm5 (List.mem_of_getElem? (i := 164) (by decide +kernel))) rfl
theorem wim_X11_heap : Cond.instanceMethod yX11_heap ∈ wsU := wu_t (tm5 (List.mem_of_getElem? (i := 165) (by decide +kernel))) rfl
theorem wse_X11_X11_heap_X11_heap : Cond.selects RX11 yX11_heap yX11_heap ∈ wsU := wu_t (tm5 (List.mem_of_getElem? (i := 166) (by decide +kernel))) rfl
theorem wcd_X11_heap : Cond.code yX11_heap cX11_heap 12 (some FieldType.long) ∈ wsU := wu_t (tm5 (List.mem_of_getElem? (i := 167) (rfl))) rfl
theorem wcl_X11_216 : Cond.constantLong RX11 216 (-4611686018427387904) ∈ wsU := wu_t (tm5 (List.mem_of_getElem? (i := 168) (by decide +kernel))) rfl
theorem wml_X11_218 : Cond.methodLink RX11 218 yX11_thickSet ∈ wsU := wu_t (tm5 (List.mem_of_getElem? (i := 169) (by decide +kernel))) rfl
theorem wim_X11_thickSet : Cond.instanceMethod yX11_thickSet ∈ wsU := wu_t (tm5 (List.mem_of_getElem? (i := 171) (by decide +kernel))) rfl
theorem wcd_X11_thickSet : Cond.code yX11_thickSet cX11_thickSet 5 (some FieldType.long) ∈ wsU := wu_t (tm5 (List.mem_of_getElem? (i := 172) (rfl))) rfl
theorem wml_X11_222 : Cond.methodLink RX11 222 yX11_heapOf ∈ wsU := wu_t (tm5 (List.mem_of_getElem? (i := 173) (by decide +kernel))) rfl
theorem wst_X11_heapOf : Cond.static yX11_heapOf ∈ wsU := wu_t (tm5 (List.mem_of_getElem? (i := 174) (by decide +kernel))) rfl
theorem wcd_X11_heapOf : Cond.code yX11_heapOf cX11_heapOf 11 (some FieldType.long) ∈ wsU := wu_t (tm5 (List.mem_of_getElem? (i := 175) (rfl))) rfl
theorem wml_L_95 : Cond.methodLink RL 95 yX11_room ∈ wsU := wu_t (tm5 (List.mem_of_getElem? (i := 176) (by decide +kernel))) rfl
theorem wim_X11_room : Cond.instanceMethod yX11_room ∈ wsU := wu_t (tm5 (List.mem_of_getElem? (i := 177) (by decide +kernel))) rfl
theorem wse_X11_X11_room_X11_room : Cond.selects RX11 yX11_room yX11_room ∈ wsU := wu_t (tm5 (List.mem_of_getElem? (i := 178) (by decide +kernel))) rfl
theorem wcd_X11_room : Cond.code yX11_room cX11_room 3 (some FieldType.int) ∈ wsU := wu_t (tm5 (List.mem_of_getElem? (i := 179) (rfl))) rfl
theorem wml_X11_228 : Cond.methodLink RX11 228 yX11_heapsOf ∈ wsU := wu_t (tm5 (List.mem_of_getElem? (i := 180) (by decide +kernel))) rfl
theorem wim_X11_heapsOf : Cond.instanceMethod yX11_heapsOf ∈ wsU := wu_t (tm5 (List.mem_of_getElem? (i := 182) (by decide +kernel))) rfl
theorem wcd_X11_heapsOf : Cond.code yX11_heapsOf cX11_heapsOf 6 (some FieldType.int) ∈ wsU := wu_t (tm5 (List.mem_of_getElem? (i := 183) (rfl))) rfl
theorem wcl_X11_226 : Cond.constantLong RX11 226 (-1) ∈ wsU := wu_t (tm5 (List.mem_of_getElem? (i := 184) (by decide +kernel))) rfl
theorem wml_X11_231 : Cond.methodLink RX11 231 yX11_outermost ∈ wsU := wu_t (tm5 (List.mem_of_getElem? (i := 185) (by decide +kernel))) rfl
theorem wim_X11_outermost : Cond.instanceMethod yX11_outermost ∈ wsU := wu_t (tm5 (List.mem_of_getElem? (i := 187) (by decide +kernel))) rfl
theorem wcd_X11_outermost : Cond.code yX11_outermost cX11_outermost 5 (some FieldType.int) ∈ wsU := wu_t (tm5 (List.mem_of_getElem? (i := 188) (rfl))) rfl
theorem wml_L_99 : Cond.methodLink RL 99 yX11_turn ∈ wsU := wu_t (tm5 (List.mem_of_getElem? (i := 189) (by decide +kernel))) rfl
theorem wim_X11_turn : Cond.instanceMethod yX11_turn ∈ wsU := wu_t (tm5 (List.mem_of_getElem? (i := 190) (by decide +kernel))) rfl
theorem wse_X11_X11_turn_X11_turn : Cond.selects RX11 yX11_turn yX11_turn ∈ wsU := wu_t (tm5 (List.mem_of_getElem? (i := 191) (by decide +kernel))) rfl
theorem wcd_X11_turn : Cond.code yX11_turn cX11_turn 8 (some FieldType.int) ∈ wsU := wu_t (tm5 (List.mem_of_getElem? (i := 192) (rfl))) rfl
theorem wml_X11_235 : Cond.methodLink RX11 235 yX11_allWithout ∈ wsU := wu_t (tm5 (List.mem_of_getElem? (i := 193) (by decide +kernel))) rfl
theorem wim_X11_allWithout : Cond.instanceMethod yX11_allWithout ∈ wsU := wu_t (tm5 (List.mem_of_getElem? (i := 195) (by decide +kernel))) rfl
theorem wcd_X11_allWithout : Cond.code yX11_allWithout cX11_allWithout 4 (some FieldType.int) ∈ wsU := wu_t (tm5 (List.mem_of_getElem? (i := 196) (rfl))) rfl
theorem wml_L_103 : Cond.methodLink RL 103 yX11_seats ∈ wsU := wu_t (tm5 (List.mem_of_getElem? (i := 197) (by decide +kernel))) rfl
theorem wim_X11_seats : Cond.instanceMethod yX11_seats ∈ wsU := wu_t (tm5 (List.mem_of_getElem? (i := 198) (by decide +kernel))) rfl
theorem wse_X11_X11_seats_X11_seats : Cond.selects RX11 yX11_seats yX11_seats ∈ wsU := wu_t (tm5 (List.mem_of_getElem? (i := 199) (by decide +kernel))) rfl
theorem wcd_X11_seats : Cond.code yX11_seats cX11_seats 10 (some FieldType.int) ∈ wsU := wu_t (tm5 (List.mem_of_getElem? (i := 200) (rfl))) rfl
theorem wml_X11_238 : Cond.methodLink RX11 238 yX11_thickestBehind ∈ wsU := wu_t (tm5 (List.mem_of_getElem? (i := 201) (by decide +kernel))) rfl
theorem wim_X11_thickestBehind : Cond.instanceMethod yX11_thickestBehind ∈ wsU := wu_t (tm5 (List.mem_of_getElem? (i := 203) (by decide +kernel))) rfl
theorem wcd_X11_thickestBehind : Cond.code yX11_thickestBehind cX11_thickestBehind 3 (some FieldType.int) ∈ wsU := wu_t (tm5 (List.mem_of_getElem? (i := 204) (rfl))) rfl
theorem wml_L_107 : Cond.methodLink RL 107 yX11_judge ∈ wsU := wu_t (tm5 (List.mem_of_getElem? (i := 205) (by decide +kernel))) rfl
theorem wim_X11_judge : Cond.instanceMethod yX11_judge ∈ wsU := wu_t (tm5 (List.mem_of_getElem? (i := 206) (by decide +kernel))) rfl
theorem wse_X11_X11_judge_X11_judge : Cond.selects RX11 yX11_judge yX11_judge ∈ wsU := wu_t (tm5 (List.mem_of_getElem? (i := 207) (by decide +kernel))) rfl
theorem wcd_X11_judge : Cond.code yX11_judge cX11_judge 4 (some FieldType.int) ∈ wsU := wu_t (tm5 (List.mem_of_getElem? (i := 208) (rfl))) rfl
theorem wml_X11_241 : Cond.methodLink RX11 241 yX11_toldWrong ∈ wsU := wu_t (tm5 (List.mem_of_getElem? (i := 209) (by decide +kernel))) rfl
theorem wim_X11_toldWrong : Cond.instanceMethod yX11_toldWrong ∈ wsU := wu_t (tm5 (List.mem_of_getElem? (i := 211) (by decide +kernel))) rfl
theorem wcd_X11_toldWrong : Cond.code yX11_toldWrong cX11_toldWrong 3 (some FieldType.int) ∈ wsU := wu_t (tm5 (List.mem_of_getElem? (i := 212) (rfl))) rfl
theorem wml_X11_244 : Cond.methodLink RX11 244 yX11_unlike ∈ wsU := wu_t (tm5 (List.mem_of_getElem? (i := 213) (by decide +kernel))) rfl
theorem wim_X11_unlike : Cond.instanceMethod yX11_unlike ∈ wsU := wu_t (tm5 (List.mem_of_getElem? (i := 215) (by decide +kernel))) rfl
theorem wcd_X11_unlike : Cond.code yX11_unlike cX11_unlike 5 (some FieldType.int) ∈ wsU := wu_t (tm5 (List.mem_of_getElem? (i := 216) (rfl))) rfl
theorem wml_L_111 : Cond.methodLink RL 111 yX11_kinds ∈ wsU := wu_t (tm5 (List.mem_of_getElem? (i := 217) (by decide +kernel))) rfl
theorem wim_X11_kinds : Cond.instanceMethod yX11_kinds ∈ wsU := wu_t (tm5 (List.mem_of_getElem? (i := 218) (by decide +kernel))) rfl
theorem wse_X11_X11_kinds_X11_kinds : Cond.selects RX11 yX11_kinds yX11_kinds ∈ wsU := wu_t (tm5 (List.mem_of_getElem? (i := 219) (by decide +kernel))) rfl
theorem wcd_X11_kinds : Cond.code yX11_kinds cX11_kinds 10 (some FieldType.int) ∈ wsU := wu_t (tm5 (List.mem_of_getElem? (i := 220) (rfl))) rfl
theorem wml_L_115 : Cond.methodLink RL 115 yX11_where ∈ wsU := wu_t (tm5 (List.mem_of_getElem? (i := 221) (by decide +kernel))) rfl
theorem wim_X11_where : Cond.instanceMethod yX11_where ∈ wsU := wu_t (tm5 (List.mem_of_getElem? (i := 222) (by decide +kernel))) rfl
theorem wse_X11_X11_where_X11_where : Cond.selects RX11 yX11_where yX11_where ∈ wsU := wu_t (tm5 (List.mem_of_getElem? (i := 223) (by decide +kernel))) rfl
theorem wcd_X11_where : Cond.code yX11_where cX11_where 8 (some FieldType.long) ∈ wsU := wu_t (tm5 (List.mem_of_getElem? (i := 224) (rfl))) rfl
theorem wml_L_119 : Cond.methodLink RL 119 yX11_holds ∈ wsU := wu_t (tm5 (List.mem_of_getElem? (i := 225) (by decide +kernel))) rfl
theorem wim_X11_holds : Cond.instanceMethod yX11_holds ∈ wsU := wu_t (tm5 (List.mem_of_getElem? (i := 226) (by decide +kernel))) rfl
theorem wse_X11_X11_holds_X11_holds : Cond.selects RX11 yX11_holds yX11_holds ∈ wsU := wu_t (tm5 (List.mem_of_getElem? (i := 227) (by decide +kernel))) rfl
theorem wcd_X11_holds : Cond.code yX11_holds cX11_holds 11 (some FieldType.int) ∈ wsU := wu_t (tm5 (List.mem_of_getElem? (i := 228) (rfl))) rfl
theorem wml_L_123 : Cond.methodLink RL 123 yX11_laws ∈ wsU := wu_t (tm5 (List.mem_of_getElem? (i := 229) (by decide +kernel))) rfl
theorem wim_X11_laws : Cond.instanceMethod yX11_laws ∈ wsU := wu_t (tm5 (List.mem_of_getElem? (i := 230) (by decide +kernel))) rfl
theorem wse_X11_X11_laws_X11_laws : Cond.selects RX11 yX11_laws yX11_laws ∈ wsU := wu_t (tm5 (List.mem_of_getElem? (i := 231) (by decide +kernel))) rfl
theorem wcd_X11_laws : Cond.code yX11_laws cX11_laws 7 (some FieldType.int) ∈ wsU := wu_t (tm5 (List.mem_of_getElem? (i := 232) (rfl))) rfl
theorem wml_L_127 : Cond.methodLink RL 127 yX11_film ∈ wsU := wu_t (tm5 (List.mem_of_getElem? (i := 233) (by decide +kernel))) rfl
theorem wim_X11_film : Cond.instanceMethod yX11_film ∈ wsU := wu_t (tm5 (List.mem_of_getElem? (i := 234) (by decide +kernel))) rfl
theorem wse_X11_X11_film_X11_film : Cond.selects RX11 yX11_film yX11_film ∈ wsU := wu_t (tm5 (List.mem_of_getElem? (i := 235) (by decide +kernel))) rfl
theorem wcd_X11_film : Cond.code yX11_film cX11_film 5 (some FieldType.int) ∈ wsU := wu_t (tm5 (List.mem_of_getElem? (i := 236) (rfl))) rfl
theorem wml_L_131 : Cond.methodLink RL 131 yX11_drawn ∈ wsU := wu_t (tm5 (List.mem_of_getElem? (i := 237) (by decide +kernel))) rfl
theorem wim_X11_drawn : Cond.instanceMethod yX11_drawn ∈ wsU := wu_t (tm5 (List.mem_of_getElem? (i := 238) (by decide +kernel))) rfl
theorem wse_X11_X11_drawn_X11_drawn : Cond.selects RX11 yX11_drawn yX11_drawn ∈ wsU := wu_t (tm5 (List.mem_of_getElem? (i := 239) (by decide +kernel))) rfl
theorem wcd_X11_drawn : Cond.code yX11_drawn cX11_drawn 5 (some FieldType.int) ∈ wsU := wu_t (tm6 (List.mem_of_getElem? (i := 0) (rfl))) rfl
theorem wct_X11_262 : Cond.constant RX11 262 (99999) ∈ wsU := wu_t (tm6 (List.mem_of_getElem? (i := 1) (by decide +kernel))) rfl
theorem wml_X11_263 : Cond.methodLink RX11 263 yX11_calls ∈ wsU := wu_t (tm6 (List.mem_of_getElem? (i := 2) (by decide +kernel))) rfl
theorem wim_X11_calls : Cond.instanceMethod yX11_calls ∈ wsU := wu_t (tm6 (List.mem_of_getElem? (i := 4) (by decide +kernel))) rfl
theorem wcd_X11_calls : Cond.code yX11_calls cX11_calls 8 none ∈ wsU := wu_t (tm6 (List.mem_of_getElem? (i := 5) (rfl))) rfl
theorem wcl_X11_253 : Cond.constantLong RX11 253 (48271) ∈ wsU := wu_t (tm6 (List.mem_of_getElem? (i := 6) (by decide +kernel))) rfl
theorem wcl_X11_255 : Cond.constantLong RX11 255 (2147483647) ∈ wsU := wu_t (tm6 (List.mem_of_getElem? (i := 7) (by decide +kernel))) rfl
theorem wcl_X11_257 : Cond.constantLong RX11 257 (4) ∈ wsU := wu_t (tm6 (List.mem_of_getElem? (i := 8) (by decide +kernel))) rfl
theorem wml_X11_259 : Cond.methodLink RX11 259 yX11_goesBy ∈ wsU := wu_t (tm6 (List.mem_of_getElem? (i := 9) (by decide +kernel))) rfl
theorem wst_X11_goesBy : Cond.static yX11_goesBy ∈ wsU := wu_t (tm6 (List.mem_of_getElem? (i := 10) (by decide +kernel))) rfl
theorem wcd_X11_goesBy : Cond.code yX11_goesBy cX11_goesBy 2 (some FieldType.int) ∈ wsU := wu_t (tm6 (List.mem_of_getElem? (i := 11) (rfl))) rfl
theorem wml_L_136 : Cond.methodLink RL 136 yX11_odds ∈ wsU := wu_t (tm6 (List.mem_of_getElem? (i := 12) (by decide +kernel))) rfl
theorem wim_X11_odds : Cond.instanceMethod yX11_odds ∈ wsU := wu_t (tm6 (List.mem_of_getElem? (i := 13) (by decide +kernel))) rfl
theorem wse_X11_X11_odds_X11_odds : Cond.selects RX11 yX11_odds yX11_odds ∈ wsU := wu_t (tm6 (List.mem_of_getElem? (i := 14) (by decide +kernel))) rfl
theorem wcd_X11_odds : Cond.code yX11_odds cX11_odds 10 (some FieldType.long) ∈ wsU := wu_t (tm6 (List.mem_of_getElem? (i := 15) (rfl))) rfl
theorem wct_X11_267 : Cond.constant RX11 267 (9999999) ∈ wsU := wu_t (tm6 (List.mem_of_getElem? (i := 16) (by decide +kernel))) rfl
theorem wml_X11_268 : Cond.methodLink RX11 268 yX11_lowest ∈ wsU := wu_t (tm6 (List.mem_of_getElem? (i := 17) (by decide +kernel))) rfl
theorem wst_X11_lowest : Cond.static yX11_lowest ∈ wsU := wu_t (tm6 (List.mem_of_getElem? (i := 18) (by decide +kernel))) rfl
theorem wcd_X11_lowest : Cond.code yX11_lowest cX11_lowest 11 (some FieldType.long) ∈ wsU := wu_t (tm6 (List.mem_of_getElem? (i := 19) (rfl))) rfl
theorem wml_L_141 : Cond.methodLink RL 141 yX11_share ∈ wsU := wu_t (tm6 (List.mem_of_getElem? (i := 20) (by decide +kernel))) rfl
theorem wim_X11_share : Cond.instanceMethod yX11_share ∈ wsU := wu_t (tm6 (List.mem_of_getElem? (i := 21) (by decide +kernel))) rfl
theorem wse_X11_X11_share_X11_share : Cond.selects RX11 yX11_share yX11_share ∈ wsU := wu_t (tm6 (List.mem_of_getElem? (i := 22) (by decide +kernel))) rfl
theorem wcd_X11_share : Cond.code yX11_share cX11_share 6 (some FieldType.long) ∈ wsU := wu_t (tm6 (List.mem_of_getElem? (i := 23) (rfl))) rfl
theorem wml_L_145 : Cond.methodLink RL 145 yX11_image ∈ wsU := wu_t (tm6 (List.mem_of_getElem? (i := 24) (by decide +kernel))) rfl
theorem wim_X11_image : Cond.instanceMethod yX11_image ∈ wsU := wu_t (tm6 (List.mem_of_getElem? (i := 25) (by decide +kernel))) rfl
theorem wse_X11_X11_image_X11_image : Cond.selects RX11 yX11_image yX11_image ∈ wsU := wu_t (tm6 (List.mem_of_getElem? (i := 26) (by decide +kernel))) rfl
theorem wcd_X11_image : Cond.code yX11_image cX11_image 2 (some FieldType.int) ∈ wsU := wu_t (tm6 (List.mem_of_getElem? (i := 27) (rfl))) rfl
theorem wml_L_149 : Cond.methodLink RL 149 yX11_back ∈ wsU := wu_t (tm6 (List.mem_of_getElem? (i := 28) (by decide +kernel))) rfl
theorem wim_X11_back : Cond.instanceMethod yX11_back ∈ wsU := wu_t (tm6 (List.mem_of_getElem? (i := 29) (by decide +kernel))) rfl
theorem wse_X11_X11_back_X11_back : Cond.selects RX11 yX11_back yX11_back ∈ wsU := wu_t (tm6 (List.mem_of_getElem? (i := 30) (by decide +kernel))) rfl
theorem wcd_X11_back : Cond.code yX11_back cX11_back 2 (some FieldType.int) ∈ wsU := wu_t (tm6 (List.mem_of_getElem? (i := 31) (rfl))) rfl
theorem wml_L_153 : Cond.methodLink RL 153 yX11_sheet ∈ wsU := wu_t (tm6 (List.mem_of_getElem? (i := 32) (by decide +kernel))) rfl
theorem wim_X11_sheet : Cond.instanceMethod yX11_sheet ∈ wsU := wu_t (tm6 (List.mem_of_getElem? (i := 33) (by decide +kernel))) rfl
theorem wse_X11_X11_sheet_X11_sheet : Cond.selects RX11 yX11_sheet yX11_sheet ∈ wsU := wu_t (tm6 (List.mem_of_getElem? (i := 34) (by decide +kernel))) rfl
theorem wcd_X11_sheet : Cond.code yX11_sheet cX11_sheet 5 (some FieldType.int) ∈ wsU := wu_t (tm6 (List.mem_of_getElem? (i := 35) (rfl))) rfl
theorem wml_L_157 : Cond.methodLink RL 157 yX11_cell ∈ wsU := wu_t (tm6 (List.mem_of_getElem? (i := 36) (by decide +kernel))) rfl
theorem wim_X11_cell : Cond.instanceMethod yX11_cell ∈ wsU := wu_t (tm6 (List.mem_of_getElem? (i := 37) (by decide +kernel))) rfl
theorem wse_X11_X11_cell_X11_cell : Cond.selects RX11 yX11_cell yX11_cell ∈ wsU := wu_t (tm6 (List.mem_of_getElem? (i := 38) (by decide +kernel))) rfl
theorem wcd_X11_cell : Cond.code yX11_cell cX11_cell 4 (some FieldType.int) ∈ wsU := wu_t (tm6 (List.mem_of_getElem? (i := 39) (rfl))) rfl
theorem wml_L_162 : Cond.methodLink RL 162 yX11_copy ∈ wsU := wu_t (tm6 (List.mem_of_getElem? (i := 40) (by decide +kernel))) rfl
theorem wim_X11_copy : Cond.instanceMethod yX11_copy ∈ wsU := wu_t (tm6 (List.mem_of_getElem? (i := 41) (by decide +kernel))) rfl
theorem wse_X11_X11_copy_X11_copy : Cond.selects RX11 yX11_copy yX11_copy ∈ wsU := wu_t (tm6 (List.mem_of_getElem? (i := 42) (by decide +kernel))) rfl
theorem wcd_X11_copy : Cond.code yX11_copy cX11_copy 10 (some FieldType.int) ∈ wsU := wu_t (tm6 (List.mem_of_getElem? (i := 43) (rfl))) rfl
theorem wml_L_166 : Cond.methodLink RL 166 yX11_peopleBy ∈ wsU := wu_t (tm6 (List.mem_of_getElem? (i := 44) (by decide +kernel))) rfl
theorem wim_X11_peopleBy : Cond.instanceMethod yX11_peopleBy ∈ wsU := wu_t (tm6 (List.mem_of_getElem? (i := 45) (by decide +kernel))) rfl
theorem wse_X11_X11_peopleBy_X11_peopleBy : Cond.selects RX11 yX11_peopleBy yX11_peopleBy ∈ wsU := wu_t (tm6 (List.mem_of_getElem? (i := 46) (by decide +kernel))) rfl
theorem wcd_X11_peopleBy : Cond.code yX11_peopleBy cX11_peopleBy 9 (some FieldType.int) ∈ wsU := wu_t (tm6 (List.mem_of_getElem? (i := 47) (rfl))) rfl
theorem wml_X11_276 : Cond.methodLink RX11 276 yX11_person ∈ wsU := wu_t (tm6 (List.mem_of_getElem? (i := 48) (by decide +kernel))) rfl
theorem wml_L_170 : Cond.methodLink RL 170 yX11_taken ∈ wsU := wu_t (tm6 (List.mem_of_getElem? (i := 49) (by decide +kernel))) rfl
theorem wim_X11_taken : Cond.instanceMethod yX11_taken ∈ wsU := wu_t (tm6 (List.mem_of_getElem? (i := 50) (by decide +kernel))) rfl
theorem wse_X11_X11_taken_X11_taken : Cond.selects RX11 yX11_taken yX11_taken ∈ wsU := wu_t (tm6 (List.mem_of_getElem? (i := 51) (by decide +kernel))) rfl
theorem wcd_X11_taken : Cond.code yX11_taken cX11_taken 3 (some FieldType.int) ∈ wsU := wu_t (tm6 (List.mem_of_getElem? (i := 52) (rfl))) rfl
theorem wml_X11_279 : Cond.methodLink RX11 279 yX11_isUnder ∈ wsU := wu_t (tm6 (List.mem_of_getElem? (i := 53) (by decide +kernel))) rfl
theorem wst_X11_isUnder : Cond.static yX11_isUnder ∈ wsU := wu_t (tm6 (List.mem_of_getElem? (i := 54) (by decide +kernel))) rfl
theorem wcd_X11_isUnder : Cond.code yX11_isUnder cX11_isUnder 2 (some FieldType.boolean) ∈ wsU := wu_t (tm6 (List.mem_of_getElem? (i := 55) (rfl))) rfl
theorem wsm_X2_X2_drops : Cond.sameMethod RX2 RX2 "drops" "(III)I" ∈ wsU := wu_t (tm6 (List.mem_of_getElem? (i := 56) (by decide +kernel))) rfl
theorem wsm_X0_X0_drops : Cond.sameMethod RX0 RX0 "drops" "(III)I" ∈ wsU := wu_t (tm6 (List.mem_of_getElem? (i := 57) (by decide +kernel))) rfl
theorem wsm_X2_X2_feels : Cond.sameMethod RX2 RX2 "feels" "(II)I" ∈ wsU := wu_t (tm6 (List.mem_of_getElem? (i := 58) (by decide +kernel))) rfl
theorem wsm_X2_X2_isOf : Cond.sameMethod RX2 RX2 "isOf" "(I)Z" ∈ wsU := wu_t (tm6 (List.mem_of_getElem? (i := 59) (by decide +kernel))) rfl
theorem wsm_X0_X0_isOf : Cond.sameMethod RX0 RX0 "isOf" "(I)Z" ∈ wsU := wu_t (tm6 (List.mem_of_getElem? (i := 60) (by decide +kernel))) rfl
theorem wfl_J0_9 : Cond.fieldLink RJ0 9 RJ0 "value" "[B" ∈ wsU := wu_t (tm6 (List.mem_of_getElem? (i := 66) (by decide +kernel))) rfl
theorem wfl_J0_15 : Cond.fieldLink RJ0 15 RJ0 "coder" "B" ∈ wsU := wu_t (tm6 (List.mem_of_getElem? (i := 67) (by decide +kernel))) rfl
theorem wse_X5_X5_total_X5_total : Cond.selects RX5 yX5_total yX5_total ∈ wsU := wu_p (List.mem_of_getElem? (i := 0) (by decide +kernel)) rfl
theorem wse_X4_X4_append_X4_append : Cond.selects RX4 yX4_append yX4_append ∈ wsU := wu_p (List.mem_of_getElem? (i := 1) (by decide +kernel)) rfl
theorem wse_X4_X4_readText_X4_readText : Cond.selects RX4 yX4_readText yX4_readText ∈ wsU := wu_p (List.mem_of_getElem? (i := 2) (by decide +kernel)) rfl
theorem wse_X4_X4_advance_X4_advance : Cond.selects RX4 yX4_advance yX4_advance ∈ wsU := wu_p (List.mem_of_getElem? (i := 3) (by decide +kernel)) rfl
theorem wse_X4_X4_takeWord_X4_takeWord : Cond.selects RX4 yX4_takeWord yX4_takeWord ∈ wsU := wu_p (List.mem_of_getElem? (i := 4) (by decide +kernel)) rfl
theorem wse_X4_X4_isWord_X4_isWord : Cond.selects RX4 yX4_isWord yX4_isWord ∈ wsU := wu_p (List.mem_of_getElem? (i := 5) (by decide +kernel)) rfl
theorem wse_X4_X4_takeNumber_X4_takeNumber : Cond.selects RX4 yX4_takeNumber yX4_takeNumber ∈ wsU := wu_p (List.mem_of_getElem? (i := 6) (by decide +kernel)) rfl
theorem wse_X4_X4_skip_X4_skip : Cond.selects RX4 yX4_skip yX4_skip ∈ wsU := wu_p (List.mem_of_getElem? (i := 7) (by decide +kernel)) rfl
theorem wse_X4_X4_readOr_X4_readOr : Cond.selects RX4 yX4_readOr yX4_readOr ∈ wsU := wu_p (List.mem_of_getElem? (i := 8) (by decide +kernel)) rfl
theorem wse_X4_X4_readAnd_X4_readAnd : Cond.selects RX4 yX4_readAnd yX4_readAnd ∈ wsU := wu_p (List.mem_of_getElem? (i := 9) (by decide +kernel)) rfl
theorem wse_X4_X4_readNot_X4_readNot : Cond.selects RX4 yX4_readNot yX4_readNot ∈ wsU := wu_p (List.mem_of_getElem? (i := 10) (by decide +kernel)) rfl
theorem wse_X4_X4_emit_X4_emit : Cond.selects RX4 yX4_emit yX4_emit ∈ wsU := wu_p (List.mem_of_getElem? (i := 11) (by decide +kernel)) rfl
theorem wse_X4_X4_readSum_X4_readSum : Cond.selects RX4 yX4_readSum yX4_readSum ∈ wsU := wu_p (List.mem_of_getElem? (i := 12) (by decide +kernel)) rfl
theorem wse_X4_X4_readTerm_X4_readTerm : Cond.selects RX4 yX4_readTerm yX4_readTerm ∈ wsU := wu_p (List.mem_of_getElem? (i := 13) (by decide +kernel)) rfl
theorem wse_X4_X4_readOne_X4_readOne : Cond.selects RX4 yX4_readOne yX4_readOne ∈ wsU := wu_p (List.mem_of_getElem? (i := 14) (by decide +kernel)) rfl
theorem wse_X8_X8_become_X8_become : Cond.selects RX8 yX8_become yX8_become ∈ wsU := wu_p (List.mem_of_getElem? (i := 15) (by decide +kernel)) rfl
theorem wse_X5_X5_has_X5_has : Cond.selects RX5 yX5_has yX5_has ∈ wsU := wu_p (List.mem_of_getElem? (i := 16) (by decide +kernel)) rfl
theorem wse_X5_X5_said_X5_said : Cond.selects RX5 yX5_said yX5_said ∈ wsU := wu_p (List.mem_of_getElem? (i := 17) (by decide +kernel)) rfl
theorem wse_X8_X8_says_X8_says : Cond.selects RX8 yX8_says yX8_says ∈ wsU := wu_p (List.mem_of_getElem? (i := 18) (by decide +kernel)) rfl
theorem wse_X5_X5_admit_X5_admit : Cond.selects RX5 yX5_admit yX5_admit ∈ wsU := wu_p (List.mem_of_getElem? (i := 19) (by decide +kernel)) rfl
theorem wse_X5_X5_passDay_X5_passDay : Cond.selects RX5 yX5_passDay yX5_passDay ∈ wsU := wu_p (List.mem_of_getElem? (i := 20) (by decide +kernel)) rfl
theorem wse_X5_X5_leave_X5_leave : Cond.selects RX5 yX5_leave yX5_leave ∈ wsU := wu_p (List.mem_of_getElem? (i := 21) (by decide +kernel)) rfl
theorem wse_X5_X5_kindOf_X5_kindOf : Cond.selects RX5 yX5_kindOf yX5_kindOf ∈ wsU := wu_p (List.mem_of_getElem? (i := 22) (by decide +kernel)) rfl
theorem wse_X5_X5_thicken_X5_thicken : Cond.selects RX5 yX5_thicken yX5_thicken ∈ wsU := wu_p (List.mem_of_getElem? (i := 23) (by decide +kernel)) rfl
theorem wse_X5_X5_leftOn_X5_leftOn : Cond.selects RX5 yX5_leftOn yX5_leftOn ∈ wsU := wu_p (List.mem_of_getElem? (i := 24) (by decide +kernel)) rfl
theorem wse_X5_X5_leftInAll_X5_leftInAll : Cond.selects RX5 yX5_leftInAll yX5_leftInAll ∈ wsU := wu_p (List.mem_of_getElem? (i := 25) (by decide +kernel)) rfl
theorem wse_X5_X5_takeFrom_X5_takeFrom : Cond.selects RX5 yX5_takeFrom yX5_takeFrom ∈ wsU := wu_p (List.mem_of_getElem? (i := 26) (by decide +kernel)) rfl
theorem wse_X5_X5_passDays_X5_passDays : Cond.selects RX5 yX5_passDays yX5_passDays ∈ wsU := wu_p (List.mem_of_getElem? (i := 27) (by decide +kernel)) rfl
theorem wse_X10_X10_refuseWalk_X10_refuseWalk : Cond.selects RX10 yX10_refuseWalk yX10_refuseWalk ∈ wsU := wu_p (List.mem_of_getElem? (i := 28) (by decide +kernel)) rfl
theorem wse_X6_X6_tellsWalk_X6_tellsWalk : Cond.selects RX6 yX6_tellsWalk yX6_tellsWalk ∈ wsU := wu_p (List.mem_of_getElem? (i := 29) (by decide +kernel)) rfl
theorem wse_X10_X10_feltOnWalk_X10_feltOnWalk : Cond.selects RX10 yX10_feltOnWalk yX10_feltOnWalk ∈ wsU := wu_p (List.mem_of_getElem? (i := 30) (by decide +kernel)) rfl
theorem wse_X5_X5_felt_X5_felt : Cond.selects RX5 yX5_felt yX5_felt ∈ wsU := wu_p (List.mem_of_getElem? (i := 31) (by decide +kernel)) rfl
theorem wse_X5_X5_wear_X5_wear : Cond.selects RX5 yX5_wear yX5_wear ∈ wsU := wu_p (List.mem_of_getElem? (i := 32) (by decide +kernel)) rfl
theorem wse_X5_X5_leastFelt_X5_leastFelt : Cond.selects RX5 yX5_leastFelt yX5_leastFelt ∈ wsU := wu_p (List.mem_of_getElem? (i := 33) (by decide +kernel)) rfl
theorem wse_X5_X5_relax_X5_relax : Cond.selects RX5 yX5_relax yX5_relax ∈ wsU := wu_p (List.mem_of_getElem? (i := 34) (by decide +kernel)) rfl
theorem wse_X5_X5_fewestCells_X5_fewestCells : Cond.selects RX5 yX5_fewestCells yX5_fewestCells ∈ wsU := wu_p (List.mem_of_getElem? (i := 35) (by decide +kernel)) rfl
theorem wse_X5_X5_thickBy_X5_thickBy : Cond.selects RX5 yX5_thickBy yX5_thickBy ∈ wsU := wu_p (List.mem_of_getElem? (i := 36) (by decide +kernel)) rfl
theorem wse_X5_X5_totalOf_X5_totalOf : Cond.selects RX5 yX5_totalOf yX5_totalOf ∈ wsU := wu_p (List.mem_of_getElem? (i := 37) (by decide +kernel)) rfl
theorem wse_X5_X5_thickestCell_X5_thickestCell : Cond.selects RX5 yX5_thickestCell yX5_thickestCell ∈ wsU := wu_p (List.mem_of_getElem? (i := 38) (by decide +kernel)) rfl
theorem wse_X5_X5_thinnestCell_X5_thinnestCell : Cond.selects RX5 yX5_thinnestCell yX5_thinnestCell ∈ wsU := wu_p (List.mem_of_getElem? (i := 39) (by decide +kernel)) rfl
theorem wse_X5_X5_heaps_X5_heaps : Cond.selects RX5 yX5_heaps yX5_heaps ∈ wsU := wu_p (List.mem_of_getElem? (i := 40) (by decide +kernel)) rfl
theorem wse_X5_X5_dismiss_X5_dismiss : Cond.selects RX5 yX5_dismiss yX5_dismiss ∈ wsU := wu_p (List.mem_of_getElem? (i := 41) (by decide +kernel)) rfl
theorem wse_X10_X10_suppose_X10_suppose : Cond.selects RX10 yX10_suppose yX10_suppose ∈ wsU := wu_p (List.mem_of_getElem? (i := 42) (by decide +kernel)) rfl
theorem wse_X10_X10_refuseTale_X10_refuseTale : Cond.selects RX10 yX10_refuseTale yX10_refuseTale ∈ wsU := wu_p (List.mem_of_getElem? (i := 43) (by decide +kernel)) rfl
theorem wse_X10_X10_firstOtherwise_X10_firstOtherwise : Cond.selects RX10 yX10_firstOtherwise yX10_firstOtherwise ∈ wsU := wu_p (List.mem_of_getElem? (i := 44) (by decide +kernel)) rfl
theorem wse_X10_X10_refuseTaleOf_X10_refuseTaleOf : Cond.selects RX10 yX10_refuseTaleOf yX10_refuseTaleOf ∈ wsU := wu_p (List.mem_of_getElem? (i := 45) (by decide +kernel)) rfl
theorem wse_X10_X10_fitting_X10_fitting : Cond.selects RX10 yX10_fitting yX10_fitting ∈ wsU := wu_p (List.mem_of_getElem? (i := 46) (by decide +kernel)) rfl
theorem wse_X6_X6_become_X6_become : Cond.selects RX6 yX6_become yX6_become ∈ wsU := wu_p (List.mem_of_getElem? (i := 47) (by decide +kernel)) rfl
theorem wse_X6_X6_write_X6_write : Cond.selects RX6 yX6_write yX6_write ∈ wsU := wu_p (List.mem_of_getElem? (i := 48) (by decide +kernel)) rfl
theorem wse_X5_X5_wander_X5_wander : Cond.selects RX5 yX5_wander yX5_wander ∈ wsU := wu_p (List.mem_of_getElem? (i := 49) (by decide +kernel)) rfl
theorem wse_X6_X6_holdsRange_X6_holdsRange : Cond.selects RX6 yX6_holdsRange yX6_holdsRange ∈ wsU := wu_p (List.mem_of_getElem? (i := 50) (by decide +kernel)) rfl
theorem wse_X11_X11_next_X11_next : Cond.selects RX11 yX11_next yX11_next ∈ wsU := wu_p (List.mem_of_getElem? (i := 51) (by decide +kernel)) rfl
theorem wse_X11_X11_wordFrom_X11_wordFrom : Cond.selects RX11 yX11_wordFrom yX11_wordFrom ∈ wsU := wu_p (List.mem_of_getElem? (i := 52) (by decide +kernel)) rfl
theorem wse_X11_X11_eRead_X11_eRead : Cond.selects RX11 yX11_eRead yX11_eRead ∈ wsU := wu_p (List.mem_of_getElem? (i := 53) (by decide +kernel)) rfl
theorem wse_X11_X11_puts_X11_puts : Cond.selects RX11 yX11_puts yX11_puts ∈ wsU := wu_p (List.mem_of_getElem? (i := 54) (by decide +kernel)) rfl
theorem wse_X11_X11_unwinds_X11_unwinds : Cond.selects RX11 yX11_unwinds yX11_unwinds ∈ wsU := wu_p (List.mem_of_getElem? (i := 55) (by decide +kernel)) rfl
theorem wse_X11_X11_opensOne_X11_opensOne : Cond.selects RX11 yX11_opensOne yX11_opensOne ∈ wsU := wu_p (List.mem_of_getElem? (i := 56) (by decide +kernel)) rfl
theorem wse_X11_X11_holdsText_X11_holdsText : Cond.selects RX11 yX11_holdsText yX11_holdsText ∈ wsU := wu_p (List.mem_of_getElem? (i := 57) (by decide +kernel)) rfl
theorem wse_X11_X11_signOf_X11_signOf : Cond.selects RX11 yX11_signOf yX11_signOf ∈ wsU := wu_p (List.mem_of_getElem? (i := 58) (by decide +kernel)) rfl
theorem wse_X11_X11_between_X11_between : Cond.selects RX11 yX11_between yX11_between ∈ wsU := wu_p (List.mem_of_getElem? (i := 59) (by decide +kernel)) rfl
theorem wse_X11_X11_allOf_X11_allOf : Cond.selects RX11 yX11_allOf yX11_allOf ∈ wsU := wu_p (List.mem_of_getElem? (i := 60) (by decide +kernel)) rfl
theorem wse_X11_X11_isOne_X11_isOne : Cond.selects RX11 yX11_isOne yX11_isOne ∈ wsU := wu_p (List.mem_of_getElem? (i := 61) (by decide +kernel)) rfl
theorem wse_X11_X11_asksOf_X11_asksOf : Cond.selects RX11 yX11_asksOf yX11_asksOf ∈ wsU := wu_p (List.mem_of_getElem? (i := 62) (by decide +kernel)) rfl
theorem wse_X11_X11_says_X11_says : Cond.selects RX11 yX11_says yX11_says ∈ wsU := wu_p (List.mem_of_getElem? (i := 63) (by decide +kernel)) rfl
theorem wse_X11_X11_dayBut_X11_dayBut : Cond.selects RX11 yX11_dayBut yX11_dayBut ∈ wsU := wu_p (List.mem_of_getElem? (i := 64) (by decide +kernel)) rfl
theorem wse_X11_X11_turnOf_X11_turnOf : Cond.selects RX11 yX11_turnOf yX11_turnOf ∈ wsU := wu_p (List.mem_of_getElem? (i := 65) (by decide +kernel)) rfl
theorem wse_X11_X11_leavesAt_X11_leavesAt : Cond.selects RX11 yX11_leavesAt yX11_leavesAt ∈ wsU := wu_p (List.mem_of_getElem? (i := 66) (by decide +kernel)) rfl
theorem wse_X11_X11_keeps_X11_keeps : Cond.selects RX11 yX11_keeps yX11_keeps ∈ wsU := wu_p (List.mem_of_getElem? (i := 67) (by decide +kernel)) rfl
theorem wse_X11_X11_lays_X11_lays : Cond.selects RX11 yX11_lays yX11_lays ∈ wsU := wu_p (List.mem_of_getElem? (i := 68) (by decide +kernel)) rfl
theorem wse_X11_X11_walkWrong_X11_walkWrong : Cond.selects RX11 yX11_walkWrong yX11_walkWrong ∈ wsU := wu_p (List.mem_of_getElem? (i := 69) (by decide +kernel)) rfl
theorem wse_X11_X11_feelsOf_X11_feelsOf : Cond.selects RX11 yX11_feelsOf yX11_feelsOf ∈ wsU := wu_p (List.mem_of_getElem? (i := 70) (by decide +kernel)) rfl
theorem wse_X11_X11_wearsNow_X11_wearsNow : Cond.selects RX11 yX11_wearsNow yX11_wearsNow ∈ wsU := wu_p (List.mem_of_getElem? (i := 71) (by decide +kernel)) rfl
theorem wse_X11_X11_wearsOf_X11_wearsOf : Cond.selects RX11 yX11_wearsOf yX11_wearsOf ∈ wsU := wu_p (List.mem_of_getElem? (i := 72) (by decide +kernel)) rfl
theorem wse_X11_X11_relaxes_X11_relaxes : Cond.selects RX11 yX11_relaxes yX11_relaxes ∈ wsU := wu_p (List.mem_of_getElem? (i := 73) (by decide +kernel)) rfl
theorem wse_X11_X11_thickSet_X11_thickSet : Cond.selects RX11 yX11_thickSet yX11_thickSet ∈ wsU := wu_p (List.mem_of_getElem? (i := 74) (by decide +kernel)) rfl
theorem wse_X11_X11_heapsOf_X11_heapsOf : Cond.selects RX11 yX11_heapsOf yX11_heapsOf ∈ wsU := wu_p (List.mem_of_getElem? (i := 75) (by decide +kernel)) rfl
theorem wse_X11_X11_outermost_X11_outermost : Cond.selects RX11 yX11_outermost yX11_outermost ∈ wsU := wu_p (List.mem_of_getElem? (i := 76) (by decide +kernel)) rfl
theorem wse_X11_X11_allWithout_X11_allWithout : Cond.selects RX11 yX11_allWithout yX11_allWithout ∈ wsU := wu_p (List.mem_of_getElem? (i := 77) (by decide +kernel)) rfl
theorem wse_X11_X11_thickestBehind_X11_thickestBehind : Cond.selects RX11 yX11_thickestBehind yX11_thickestBehind ∈ wsU := wu_p (List.mem_of_getElem? (i := 78) (by decide +kernel)) rfl
theorem wse_X11_X11_toldWrong_X11_toldWrong : Cond.selects RX11 yX11_toldWrong yX11_toldWrong ∈ wsU := wu_p (List.mem_of_getElem? (i := 79) (by decide +kernel)) rfl
theorem wse_X11_X11_unlike_X11_unlike : Cond.selects RX11 yX11_unlike yX11_unlike ∈ wsU := wu_p (List.mem_of_getElem? (i := 80) (by decide +kernel)) rfl
theorem wse_X11_X11_calls_X11_calls : Cond.selects RX11 yX11_calls yX11_calls ∈ wsU := wu_p (List.mem_of_getElem? (i := 81) (by decide +kernel)) rfl
theorem inl_of (ws : List Cond) (ps : List Nat) (hp : ws = ps.filterMap (fun i => tables_1[i]?)) (hg : ws.all goodWord = true) : ∀ w ∈ ws, w ∈ wsU := by
  intro w h
  have hgw := List.all_eq_true.mp hg w h
  rw [hp] at h
  obtain ⟨i, -, hi⟩ := List.mem_filterMap.mp h
  exact wu_t (List.mem_of_getElem? hi) hgw
theorem inX4 : ∀ w ∈ u_ws RX4 TX4 9, w ∈ wsU := inl_of _ [110, 112, 114, 116, 118, 120, 122, 124, 126] (by decide +kernel) (by decide +kernel)
theorem inX5 : ∀ w ∈ u_ws RX5 TX5 11, w ∈ wsU := inl_of _ [174, 176, 178, 180, 182, 184, 186, 188, 190, 192, 194] (by decide +kernel) (by decide +kernel)
theorem inX6 : ∀ w ∈ u_ws RX6 TX6 3, w ∈ wsU := inl_of _ [142, 144, 146] (by decide +kernel) (by decide +kernel)
theorem inX8 : ∀ w ∈ u_ws RX8 TX8 3, w ∈ wsU := inl_of _ [39, 41, 43] (by decide +kernel) (by decide +kernel)
theorem inX10 : ∀ w ∈ u_ws RX10 TX10 9, w ∈ wsU := inl_of _ [206, 208, 210, 212, 214, 216, 218, 220, 222] (by decide +kernel) (by decide +kernel)
theorem inX11 : ∀ w ∈ u_ws RX11 TX11 36, w ∈ wsU := inl_of _ [912, 914, 916, 918, 920, 922, 924, 926, 928, 930, 932, 934, 936, 938, 940, 942, 944, 946, 948, 950, 952, 954, 956, 958, 960, 962, 964, 966, 968, 970, 972, 974, 976, 978, 980, 982] (by decide +kernel) (by decide +kernel)
theorem wcc_L_7 : Cond.classLink RL 7 RX10 ∈ wsU := wu_t (List.mem_of_getElem? (i := 21) (by decide +kernel)) rfl
theorem wit_X10 : Cond.instantiable RX10 9 ∈ wsU := wu_t (List.mem_of_getElem? (i := 22) (by decide +kernel)) rfl
theorem wcc_X10_9 : Cond.classLink RX10 9 RX8 ∈ wsU := wu_t (List.mem_of_getElem? (i := 29) (by decide +kernel)) rfl
theorem wit_X8 : Cond.instantiable RX8 3 ∈ wsU := wu_t (List.mem_of_getElem? (i := 31) (by decide +kernel)) rfl
theorem wcc_X10_12 : Cond.classLink RX10 12 RX3 ∈ wsU := wu_t (List.mem_of_getElem? (i := 47) (by decide +kernel)) rfl
theorem wit_X3 : Cond.instantiable RX3 0 ∈ wsU := wu_t (List.mem_of_getElem? (i := 49) (by decide +kernel)) rfl
theorem wcc_X10_15 : Cond.classLink RX10 15 RX0 ∈ wsU := wu_t (List.mem_of_getElem? (i := 55) (by decide +kernel)) rfl
theorem wit_X0 : Cond.instantiable RX0 0 ∈ wsU := wu_t (List.mem_of_getElem? (i := 56) (by decide +kernel)) rfl
theorem wcc_X10_18 : Cond.classLink RX10 18 RX2 ∈ wsU := wu_t (List.mem_of_getElem? (i := 62) (by decide +kernel)) rfl
theorem wit_X2 : Cond.instantiable RX2 0 ∈ wsU := wu_t (List.mem_of_getElem? (i := 63) (by decide +kernel)) rfl
theorem wcc_X10_21 : Cond.classLink RX10 21 RX9 ∈ wsU := wu_t (List.mem_of_getElem? (i := 69) (by decide +kernel)) rfl
theorem wit_X9 : Cond.instantiable RX9 0 ∈ wsU := wu_t (List.mem_of_getElem? (i := 70) (by decide +kernel)) rfl
theorem wcc_X10_24 : Cond.classLink RX10 24 RX7 ∈ wsU := wu_t (List.mem_of_getElem? (i := 76) (by decide +kernel)) rfl
theorem wit_X7 : Cond.instantiable RX7 0 ∈ wsU := wu_t (List.mem_of_getElem? (i := 77) (by decide +kernel)) rfl
theorem wcc_X10_27 : Cond.classLink RX10 27 RX1 ∈ wsU := wu_t (List.mem_of_getElem? (i := 83) (by decide +kernel)) rfl
theorem wit_X1 : Cond.instantiable RX1 0 ∈ wsU := wu_t (List.mem_of_getElem? (i := 84) (by decide +kernel)) rfl
theorem wcc_X10_30 : Cond.classLink RX10 30 RX4 ∈ wsU := wu_t (List.mem_of_getElem? (i := 90) (by decide +kernel)) rfl
theorem wit_X4 : Cond.instantiable RX4 9 ∈ wsU := wu_t (List.mem_of_getElem? (i := 91) (by decide +kernel)) rfl
theorem wcc_X10_49 : Cond.classLink RX10 49 RX6 ∈ wsU := wu_t (List.mem_of_getElem? (i := 129) (by decide +kernel)) rfl
theorem wit_X6 : Cond.instantiable RX6 3 ∈ wsU := wu_t (List.mem_of_getElem? (i := 131) (by decide +kernel)) rfl
theorem wcc_X10_56 : Cond.classLink RX10 56 RX5 ∈ wsU := wu_t (List.mem_of_getElem? (i := 149) (by decide +kernel)) rfl
theorem wit_X5 : Cond.instantiable RX5 11 ∈ wsU := wu_t (List.mem_of_getElem? (i := 150) (by decide +kernel)) rfl
theorem wcc_X5_15 : Cond.classLink RX5 15 "[[I" ∈ wsU := wu_t (List.mem_of_getElem? (i := 155) (by decide +kernel)) rfl
theorem wcc_J7_317 : Cond.classLink RJ7 317 "[I" ∈ wsU := wu_t (List.mem_of_getElem? (i := 386) (by decide +kernel)) rfl
theorem wcc_L_10 : Cond.classLink RL 10 RX11 ∈ wsU := wu_t (List.mem_of_getElem? (i := 823) (by decide +kernel)) rfl
theorem wit_X11 : Cond.instantiable RX11 36 ∈ wsU := wu_t (List.mem_of_getElem? (i := 824) (by decide +kernel)) rfl
