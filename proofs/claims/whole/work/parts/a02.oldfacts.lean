/-! Facts for the walks over Work and strings. Written by wip/whole/gen_more.py -/
theorem ml_Bx_52 : (Cond.methodLink "GridLedger$Boxes" (52 : Nat) ({ cls := "GridLedger$Boxes", name := "open", desc := "(I)V" } : MethodName)) ∈ gTb := (tc_5 (List.mem_of_getElem? (i := 137) rfl) rfl)
theorem im_Bx_open : (Cond.instanceMethod ({ cls := "GridLedger$Boxes", name := "open", desc := "(I)V" } : MethodName)) ∈ gTb := (tc_5 (List.mem_of_getElem? (i := 139) rfl) rfl)
theorem ml_Bx_56 : (Cond.methodLink "GridLedger$Boxes" (56 : Nat) ({ cls := "GridLedger$Boxes", name := "firstError", desc := "()I" } : MethodName)) ∈ gTb := (tc_5 (List.mem_of_getElem? (i := 144) rfl) rfl)
theorem im_Bx_firstError : (Cond.instanceMethod ({ cls := "GridLedger$Boxes", name := "firstError", desc := "()I" } : MethodName)) ∈ gTb := (tc_5 (List.mem_of_getElem? (i := 146) rfl) rfl)
theorem fs_Bx_64 : (Cond.fieldLink "GridLedger$Boxes" (64 : Nat) "GridLedger$Work" "PRODUCT" "LGridLedger$Work;") ∈ gTb := (tc_5 (List.mem_of_getElem? (i := 150) rfl) rfl)
theorem fs_Bx_86 : (Cond.fieldLink "GridLedger$Boxes" (86 : Nat) "GridLedger$Work" "AVERAGE" "LGridLedger$Work;") ∈ gTb := (tc_5 (List.mem_of_getElem? (i := 165) rfl) rfl)
theorem ml_Bx_89 : (Cond.methodLink "GridLedger$Boxes" (89 : Nat) ({ cls := "GridLedger$Boxes", name := "average", desc := "(IJI)V" } : MethodName)) ∈ gTb := (tc_5 (List.mem_of_getElem? (i := 167) rfl) rfl)
theorem im_Bx_average : (Cond.instanceMethod ({ cls := "GridLedger$Boxes", name := "average", desc := "(IJI)V" } : MethodName)) ∈ gTb := (tc_5 (List.mem_of_getElem? (i := 169) rfl) rfl)
theorem ml_Bx_76 : (Cond.methodLink "GridLedger$Boxes" (76 : Nat) ({ cls := "GridLedger$Boxes", name := "fits", desc := "(LGridLedger$Work;JJ)Z" } : MethodName)) ∈ gTb := (tc_5 (List.mem_of_getElem? (i := 152) rfl) rfl)
theorem sm_Bx_fits : (Cond.static ({ cls := "GridLedger$Boxes", name := "fits", desc := "(LGridLedger$Work;JJ)Z" } : MethodName)) ∈ gTb := (tc_5 (List.mem_of_getElem? (i := 153) rfl) rfl)
theorem ml_Bx_82 : (Cond.methodLink "GridLedger$Boxes" (82 : Nat) ({ cls := "GridLedger$Boxes", name := "gathered", desc := "(LGridLedger$Work;JJ)J" } : MethodName)) ∈ gTb := (tc_5 (List.mem_of_getElem? (i := 160) rfl) rfl)
theorem sm_Bx_gathered : (Cond.static ({ cls := "GridLedger$Boxes", name := "gathered", desc := "(LGridLedger$Work;JJ)J" } : MethodName)) ∈ gTb := (tc_5 (List.mem_of_getElem? (i := 161) rfl) rfl)
theorem c_Bx_80 : (Cond.constantLong "GridLedger$Boxes" (80 : Nat) (6 : Int64)) ∈ gTb := (tc_5 (List.mem_of_getElem? (i := 159) rfl) rfl)
theorem fs_Bx_93 : (Cond.fieldLink "GridLedger$Boxes" (93 : Nat) "GridLedger$1" "$SwitchMap$GridLedger$Work" "[I") ∈ gTb := (tc_5 (List.mem_of_getElem? (i := 155) rfl) rfl)
theorem ml_Bx_98 : (Cond.methodLink "GridLedger$Boxes" (98 : Nat) ({ cls := "GridLedger$Work", name := "ordinal", desc := "()I" } : MethodName)) ∈ gTb := (tc_5 (List.mem_of_getElem? (i := 156) rfl) rfl)
theorem ml_Bx_101 : (Cond.methodLink "GridLedger$Boxes" (101 : Nat) ({ cls := "GridLedger$Values", name := "plusFits", desc := "(JJ)Z" } : MethodName)) ∈ gTb := (tc_5 (List.mem_of_getElem? (i := 157) rfl) rfl)
theorem sm_Vl_plusFits : (Cond.static ({ cls := "GridLedger$Values", name := "plusFits", desc := "(JJ)Z" } : MethodName)) ∈ gTb := (tc_5 (List.mem_of_getElem? (i := 53) rfl) rfl)
theorem ml_Bx_105 : (Cond.methodLink "GridLedger$Boxes" (105 : Nat) ({ cls := "GridLedger$Values", name := "timesFits", desc := "(JJ)Z" } : MethodName)) ∈ gTb := (tc_5 (List.mem_of_getElem? (i := 158) rfl) rfl)
theorem ml_Bx_108 : (Cond.methodLink "GridLedger$Boxes" (108 : Nat) ({ cls := "java/lang/Math", name := "min", desc := "(JJ)J" } : MethodName)) ∈ gTb := (tc_5 (List.mem_of_getElem? (i := 163) rfl) rfl)
theorem ml_Bx_111 : (Cond.methodLink "GridLedger$Boxes" (111 : Nat) ({ cls := "java/lang/Math", name := "max", desc := "(JJ)J" } : MethodName)) ∈ gTb := (tc_5 (List.mem_of_getElem? (i := 164) rfl) rfl)
theorem ml_Bx_115 : (Cond.methodLink "GridLedger$Boxes" (115 : Nat) ({ cls := "GridLedger$Boxes", name := "measured", desc := "(LGridLedger$Work;)I" } : MethodName)) ∈ gTb := (tc_5 (List.mem_of_getElem? (i := 176) rfl) rfl)
theorem im_Bx_measured : (Cond.instanceMethod ({ cls := "GridLedger$Boxes", name := "measured", desc := "(LGridLedger$Work;)I" } : MethodName)) ∈ gTb := (tc_5 (List.mem_of_getElem? (i := 178) rfl) rfl)
theorem ml_Bx_119 : (Cond.methodLink "GridLedger$Boxes" (119 : Nat) ({ cls := "GridLedger$Boxes", name := "ofKind", desc := "(I)I" } : MethodName)) ∈ gTb := (tc_5 (List.mem_of_getElem? (i := 180) rfl) rfl)
theorem im_Bx_ofKind : (Cond.instanceMethod ({ cls := "GridLedger$Boxes", name := "ofKind", desc := "(I)I" } : MethodName)) ∈ gTb := (tc_5 (List.mem_of_getElem? (i := 182) rfl) rfl)
theorem ml_Bx_127 : (Cond.methodLink "GridLedger$Boxes" (127 : Nat) ({ cls := "GridLedger$Boxes", name := "match", desc := "(I)V" } : MethodName)) ∈ gTb := (tc_5 (List.mem_of_getElem? (i := 197) rfl) rfl)
theorem im_Bx_match : (Cond.instanceMethod ({ cls := "GridLedger$Boxes", name := "match", desc := "(I)V" } : MethodName)) ∈ gTb := (tc_5 (List.mem_of_getElem? (i := 199) rfl) rfl)
theorem ml_Bx_130 : (Cond.methodLink "GridLedger$Boxes" (130 : Nat) ({ cls := "GridLedger$Boxes", name := "lookUp", desc := "(I)V" } : MethodName)) ∈ gTb := (tc_5 (List.mem_of_getElem? (i := 207) rfl) rfl)
theorem im_Bx_lookUp : (Cond.instanceMethod ({ cls := "GridLedger$Boxes", name := "lookUp", desc := "(I)V" } : MethodName)) ∈ gTb := (tc_5 (List.mem_of_getElem? (i := 209) rfl) rfl)
theorem ml_Bx_133 : (Cond.methodLink "GridLedger$Boxes" (133 : Nat) ({ cls := "GridLedger$Boxes", name := "addUp", desc := "(LGridLedger$Work;I)V" } : MethodName)) ∈ gTb := (tc_5 (List.mem_of_getElem? (i := 211) rfl) rfl)
theorem im_Bx_addUp : (Cond.instanceMethod ({ cls := "GridLedger$Boxes", name := "addUp", desc := "(LGridLedger$Work;I)V" } : MethodName)) ∈ gTb := (tc_5 (List.mem_of_getElem? (i := 213) rfl) rfl)
theorem fs_Bx_153 : (Cond.fieldLink "GridLedger$Boxes" (153 : Nat) "GridLedger$Work" "SUMIF" "LGridLedger$Work;") ∈ gTb := (tc_5 (List.mem_of_getElem? (i := 215) rfl) rfl)
theorem fs_Ma_75 : (Cond.fieldLinkNest "GridLedger$Machine" (75 : Nat) "GridLedger" "WORKS" "[LGridLedger$Work;" "GridLedger") ∈ gNst := (tn_4 (List.mem_of_getElem? (i := 219) rfl) rfl)
theorem fo_Ma_79 : (Cond.fieldLink "GridLedger$Machine" (79 : Nat) "GridLedger$Work" "takes" "Ljava/lang/String;") ∈ gTb := (tc_9 (List.mem_of_getElem? (i := 75) rfl) rfl)
theorem ml_Ma_85 : (Cond.methodLink "GridLedger$Machine" (85 : Nat) ({ cls := "java/lang/String", name := "length", desc := "()I" } : MethodName)) ∈ gTb := (tc_4 (List.mem_of_getElem? (i := 220) rfl) rfl)
theorem ml_Ma_91 : (Cond.methodLink "GridLedger$Machine" (91 : Nat) ({ cls := "GridLedger$Machine", name := "isReady", desc := "(LGridLedger$Work;I)Z" } : MethodName)) ∈ gTb := (tc_4 (List.mem_of_getElem? (i := 221) rfl) rfl)
theorem im_Ma_isReady : (Cond.instanceMethod ({ cls := "GridLedger$Machine", name := "isReady", desc := "(LGridLedger$Work;I)Z" } : MethodName)) ∈ gTb := (tc_4 (List.mem_of_getElem? (i := 223) rfl) rfl)
theorem ml_Ma_95 : (Cond.methodLink "GridLedger$Machine" (95 : Nat) ({ cls := "GridLedger$Machine", name := "workOut", desc := "(LGridLedger$Work;I)V" } : MethodName)) ∈ gTb := (tc_5 (List.mem_of_getElem? (i := 27) rfl) rfl)
theorem im_Ma_workOut : (Cond.instanceMethod ({ cls := "GridLedger$Machine", name := "workOut", desc := "(LGridLedger$Work;I)V" } : MethodName)) ∈ gTb := (tc_5 (List.mem_of_getElem? (i := 29) rfl) rfl)
theorem ml_Ma_154 : (Cond.methodLink "GridLedger$Machine" (154 : Nat) ({ cls := "java/lang/String", name := "charAt", desc := "(I)C" } : MethodName)) ∈ gTb := (tc_4 (List.mem_of_getElem? (i := 225) rfl) rfl)
theorem fo_Ma_158 : (Cond.fieldLink "GridLedger$Machine" (158 : Nat) "GridLedger$Work" "group" "I") ∈ gTb := (tc_9 (List.mem_of_getElem? (i := 76) rfl) rfl)
theorem ml_Ma_161 : (Cond.methodLink "GridLedger$Machine" (161 : Nat) ({ cls := "GridLedger$Machine", name := "decideOrder", desc := "(LGridLedger$Work;I)V" } : MethodName)) ∈ gTb := (tc_5 (List.mem_of_getElem? (i := 31) rfl) rfl)
theorem im_Ma_decideOrder : (Cond.instanceMethod ({ cls := "GridLedger$Machine", name := "decideOrder", desc := "(LGridLedger$Work;I)V" } : MethodName)) ∈ gTb := (tc_5 (List.mem_of_getElem? (i := 33) rfl) rfl)
theorem ml_Ma_164 : (Cond.methodLink "GridLedger$Machine" (164 : Nat) ({ cls := "GridLedger$Machine", name := "reckon", desc := "(LGridLedger$Work;I)V" } : MethodName)) ∈ gTb := (tc_5 (List.mem_of_getElem? (i := 48) rfl) rfl)
theorem im_Ma_reckon : (Cond.instanceMethod ({ cls := "GridLedger$Machine", name := "reckon", desc := "(LGridLedger$Work;I)V" } : MethodName)) ∈ gTb := (tc_5 (List.mem_of_getElem? (i := 50) rfl) rfl)
theorem ml_Ma_167 : (Cond.methodLink "GridLedger$Machine" (167 : Nat) ({ cls := "GridLedger$Machine", name := "decide", desc := "(LGridLedger$Work;I)V" } : MethodName)) ∈ gTb := (tc_5 (List.mem_of_getElem? (i := 87) rfl) rfl)
theorem im_Ma_decide : (Cond.instanceMethod ({ cls := "GridLedger$Machine", name := "decide", desc := "(LGridLedger$Work;I)V" } : MethodName)) ∈ gTb := (tc_5 (List.mem_of_getElem? (i := 89) rfl) rfl)
theorem ml_Ma_170 : (Cond.methodLink "GridLedger$Machine" (170 : Nat) ({ cls := "GridLedger$Machine", name := "ask", desc := "(LGridLedger$Work;I)V" } : MethodName)) ∈ gTb := (tc_5 (List.mem_of_getElem? (i := 91) rfl) rfl)
theorem im_Ma_ask : (Cond.instanceMethod ({ cls := "GridLedger$Machine", name := "ask", desc := "(LGridLedger$Work;I)V" } : MethodName)) ∈ gTb := (tc_5 (List.mem_of_getElem? (i := 93) rfl) rfl)
theorem ml_Ma_173 : (Cond.methodLink "GridLedger$Machine" (173 : Nat) ({ cls := "GridLedger$Machine", name := "write", desc := "(LGridLedger$Work;I)V" } : MethodName)) ∈ gTb := (tc_5 (List.mem_of_getElem? (i := 96) rfl) rfl)
theorem im_Ma_write : (Cond.instanceMethod ({ cls := "GridLedger$Machine", name := "write", desc := "(LGridLedger$Work;I)V" } : MethodName)) ∈ gTb := (tc_5 (List.mem_of_getElem? (i := 98) rfl) rfl)
theorem ml_Ma_182 : (Cond.methodLink "GridLedger$Machine" (182 : Nat) ({ cls := "GridLedger$Boxes", name := "search", desc := "(LGridLedger$Work;I)V" } : MethodName)) ∈ gTb := (tc_5 (List.mem_of_getElem? (i := 184) rfl) rfl)
theorem im_Bx_search : (Cond.instanceMethod ({ cls := "GridLedger$Boxes", name := "search", desc := "(LGridLedger$Work;I)V" } : MethodName)) ∈ gTb := (tc_5 (List.mem_of_getElem? (i := 185) rfl) rfl)
theorem ml_Ma_176 : (Cond.methodLink "GridLedger$Machine" (176 : Nat) ({ cls := "GridLedger$Boxes", name := "gather", desc := "(LGridLedger$Work;I)V" } : MethodName)) ∈ gTb := (tc_5 (List.mem_of_getElem? (i := 133) rfl) rfl)
theorem im_Bx_gather : (Cond.instanceMethod ({ cls := "GridLedger$Boxes", name := "gather", desc := "(LGridLedger$Work;I)V" } : MethodName)) ∈ gTb := (tc_5 (List.mem_of_getElem? (i := 134) rfl) rfl)
theorem ml_Ma_179 : (Cond.methodLink "GridLedger$Machine" (179 : Nat) ({ cls := "GridLedger$Boxes", name := "measure", desc := "(LGridLedger$Work;I)V" } : MethodName)) ∈ gTb := (tc_5 (List.mem_of_getElem? (i := 172) rfl) rfl)
theorem im_Bx_measure : (Cond.instanceMethod ({ cls := "GridLedger$Boxes", name := "measure", desc := "(LGridLedger$Work;I)V" } : MethodName)) ∈ gTb := (tc_5 (List.mem_of_getElem? (i := 173) rfl) rfl)
theorem ml_Ma_185 : (Cond.methodLink "GridLedger$Machine" (185 : Nat) ({ cls := "GridLedger$Values", name := "compare", desc := "(ILGridLedger$Values;I)I" } : MethodName)) ∈ gTb := (tc_5 (List.mem_of_getElem? (i := 35) rfl) rfl)
theorem fs_Ma_189 : (Cond.fieldLink "GridLedger$Machine" (189 : Nat) "GridLedger$1" "$SwitchMap$GridLedger$Work" "[I") ∈ gTb := (tc_5 (List.mem_of_getElem? (i := 45) rfl) rfl)
theorem ml_Ma_194 : (Cond.methodLink "GridLedger$Machine" (194 : Nat) ({ cls := "GridLedger$Work", name := "ordinal", desc := "()I" } : MethodName)) ∈ gTb := (tc_5 (List.mem_of_getElem? (i := 46) rfl) rfl)
theorem ml_Ma_197 : (Cond.methodLink "GridLedger$Machine" (197 : Nat) ({ cls := "GridLedger$Values", name := "setTruth", desc := "(IZ)V" } : MethodName)) ∈ gTb := (tc_5 (List.mem_of_getElem? (i := 47) rfl) rfl)
theorem ml_Ma_201 : (Cond.methodLink "GridLedger$Machine" (201 : Nat) ({ cls := "GridLedger$Values", name := "plusFits", desc := "(JJ)Z" } : MethodName)) ∈ gTb := (tc_5 (List.mem_of_getElem? (i := 52) rfl) rfl)
theorem ml_Ma_212 : (Cond.methodLink "GridLedger$Machine" (212 : Nat) ({ cls := "GridLedger$Machine", name := "divide", desc := "(IJJ)V" } : MethodName)) ∈ gTb := (tc_5 (List.mem_of_getElem? (i := 64) rfl) rfl)
theorem im_Ma_divide : (Cond.instanceMethod ({ cls := "GridLedger$Machine", name := "divide", desc := "(IJJ)V" } : MethodName)) ∈ gTb := (tc_5 (List.mem_of_getElem? (i := 66) rfl) rfl)
theorem ml_Ma_216 : (Cond.methodLink "GridLedger$Machine" (216 : Nat) ({ cls := "GridLedger$Machine", name := "raise", desc := "(IJJ)V" } : MethodName)) ∈ gTb := (tc_5 (List.mem_of_getElem? (i := 71) rfl) rfl)
theorem im_Ma_raise : (Cond.instanceMethod ({ cls := "GridLedger$Machine", name := "raise", desc := "(IJJ)V" } : MethodName)) ∈ gTb := (tc_5 (List.mem_of_getElem? (i := 73) rfl) rfl)
theorem c_Ma_219 : (Cond.constantLong "GridLedger$Machine" (219 : Nat) (100 : Int64)) ∈ gTb := (tc_5 (List.mem_of_getElem? (i := 78) rfl) rfl)
theorem ml_Ma_225 : (Cond.methodLink "GridLedger$Machine" (225 : Nat) ({ cls := "java/lang/Long", name := "compare", desc := "(JJ)I" } : MethodName)) ∈ gTb := (tc_5 (List.mem_of_getElem? (i := 79) rfl) rfl)
theorem ml_Ma_228 : (Cond.methodLink "GridLedger$Machine" (228 : Nat) ({ cls := "GridLedger$Machine", name := "modulo", desc := "(IJJ)V" } : MethodName)) ∈ gTb := (tc_5 (List.mem_of_getElem? (i := 80) rfl) rfl)
theorem im_Ma_modulo : (Cond.instanceMethod ({ cls := "GridLedger$Machine", name := "modulo", desc := "(IJJ)V" } : MethodName)) ∈ gTb := (tc_5 (List.mem_of_getElem? (i := 82) rfl) rfl)
theorem c_Ma_248 : (Cond.constantLong "GridLedger$Machine" (248 : Nat) (7 : Int64)) ∈ gTb := (tc_5 (List.mem_of_getElem? (i := 95) rfl) rfl)
theorem ml_Ma_250 : (Cond.methodLink "GridLedger$Machine" (250 : Nat) ({ cls := "GridLedger$Machine", name := "join", desc := "(I)V" } : MethodName)) ∈ gTb := (tc_5 (List.mem_of_getElem? (i := 100) rfl) rfl)
theorem im_Ma_join : (Cond.instanceMethod ({ cls := "GridLedger$Machine", name := "join", desc := "(I)V" } : MethodName)) ∈ gTb := (tc_5 (List.mem_of_getElem? (i := 102) rfl) rfl)
theorem ml_Ma_253 : (Cond.methodLink "GridLedger$Machine" (253 : Nat) ({ cls := "GridLedger$Machine", name := "changeCase", desc := "(ICC)V" } : MethodName)) ∈ gTb := (tc_5 (List.mem_of_getElem? (i := 105) rfl) rfl)
theorem im_Ma_changeCase : (Cond.instanceMethod ({ cls := "GridLedger$Machine", name := "changeCase", desc := "(ICC)V" } : MethodName)) ∈ gTb := (tc_5 (List.mem_of_getElem? (i := 107) rfl) rfl)
theorem ml_Ma_257 : (Cond.methodLink "GridLedger$Machine" (257 : Nat) ({ cls := "GridLedger$Machine", name := "cutOut", desc := "(IJJ)V" } : MethodName)) ∈ gTb := (tc_5 (List.mem_of_getElem? (i := 109) rfl) rfl)
theorem im_Ma_cutOut : (Cond.instanceMethod ({ cls := "GridLedger$Machine", name := "cutOut", desc := "(IJJ)V" } : MethodName)) ∈ gTb := (tc_5 (List.mem_of_getElem? (i := 111) rfl) rfl)
theorem ml_Ma_260 : (Cond.methodLink "GridLedger$Machine" (260 : Nat) ({ cls := "java/lang/Math", name := "max", desc := "(JJ)J" } : MethodName)) ∈ gTb := (tc_5 (List.mem_of_getElem? (i := 118) rfl) rfl)
theorem ml_Ma_263 : (Cond.methodLink "GridLedger$Machine" (263 : Nat) ({ cls := "GridLedger$Machine", name := "find", desc := "(I)V" } : MethodName)) ∈ gTb := (tc_5 (List.mem_of_getElem? (i := 121) rfl) rfl)
theorem im_Ma_find : (Cond.instanceMethod ({ cls := "GridLedger$Machine", name := "find", desc := "(I)V" } : MethodName)) ∈ gTb := (tc_5 (List.mem_of_getElem? (i := 123) rfl) rfl)
theorem ml_Ma_266 : (Cond.methodLink "GridLedger$Machine" (266 : Nat) ({ cls := "GridLedger$Machine", name := "exchange", desc := "(I)V" } : MethodName)) ∈ gTb := (tc_5 (List.mem_of_getElem? (i := 129) rfl) rfl)
theorem im_Ma_exchange : (Cond.instanceMethod ({ cls := "GridLedger$Machine", name := "exchange", desc := "(I)V" } : MethodName)) ∈ gTb := (tc_5 (List.mem_of_getElem? (i := 131) rfl) rfl)
theorem fs_Rd_99 : (Cond.fieldLinkNest "GridLedger$Reader" (99 : Nat) "GridLedger" "TIGHTNESS" "[I" "GridLedger") ∈ gNst := (tn_4 (List.mem_of_getElem? (i := 72) rfl) rfl)
theorem fs_Rd_142 : (Cond.fieldLinkNest "GridLedger$Reader" (142 : Nat) "GridLedger" "WORKS" "[LGridLedger$Work;" "GridLedger") ∈ gNst := (tn_4 (List.mem_of_getElem? (i := 32) rfl) rfl)
theorem fo_Rd_146 : (Cond.fieldLink "GridLedger$Reader" (146 : Nat) "GridLedger$Work" "takes" "Ljava/lang/String;") ∈ gTb := (tc_9 (List.mem_of_getElem? (i := 72) rfl) rfl)
theorem ml_Rd_152 : (Cond.methodLink "GridLedger$Reader" (152 : Nat) ({ cls := "GridLedger$Reader", name := "readArgument", desc := "(III)Z" } : MethodName)) ∈ gTb := (tc_4 (List.mem_of_getElem? (i := 37) rfl) rfl)
theorem im_Rd_readArgument : (Cond.instanceMethod ({ cls := "GridLedger$Reader", name := "readArgument", desc := "(III)Z" } : MethodName)) ∈ gTb := (tc_4 (List.mem_of_getElem? (i := 39) rfl) rfl)
theorem ml_Rd_156 : (Cond.methodLink "GridLedger$Reader" (156 : Nat) ({ cls := "GridLedger$Reader", name := "replaceCode", desc := "(II)V" } : MethodName)) ∈ gTb := (tc_4 (List.mem_of_getElem? (i := 63) rfl) rfl)
theorem im_Rd_replaceCode : (Cond.instanceMethod ({ cls := "GridLedger$Reader", name := "replaceCode", desc := "(II)V" } : MethodName)) ∈ gTb := (tc_4 (List.mem_of_getElem? (i := 65) rfl) rfl)
theorem ml_Rd_159 : (Cond.methodLink "GridLedger$Reader" (159 : Nat) ({ cls := "java/lang/String", name := "length", desc := "()I" } : MethodName)) ∈ gTb := (tc_4 (List.mem_of_getElem? (i := 41) rfl) rfl)
theorem fo_Rd_164 : (Cond.fieldLink "GridLedger$Reader" (164 : Nat) "GridLedger$Work" "group" "I") ∈ gTb := (tc_9 (List.mem_of_getElem? (i := 73) rfl) rfl)
theorem ml_Rd_167 : (Cond.methodLink "GridLedger$Reader" (167 : Nat) ({ cls := "GridLedger$Reader", name := "closePicks", desc := "(II)V" } : MethodName)) ∈ gTb := (tc_4 (List.mem_of_getElem? (i := 67) rfl) rfl)
theorem im_Rd_closePicks : (Cond.instanceMethod ({ cls := "GridLedger$Reader", name := "closePicks", desc := "(II)V" } : MethodName)) ∈ gTb := (tc_4 (List.mem_of_getElem? (i := 69) rfl) rfl)
theorem ml_Rd_170 : (Cond.methodLink "GridLedger$Reader" (170 : Nat) ({ cls := "java/lang/String", name := "charAt", desc := "(I)C" } : MethodName)) ∈ gTb := (tc_4 (List.mem_of_getElem? (i := 42) rfl) rfl)
theorem ml_Rd_174 : (Cond.methodLink "GridLedger$Reader" (174 : Nat) ({ cls := "GridLedger$Reader", name := "readRange", desc := "()V" } : MethodName)) ∈ gTb := (tc_4 (List.mem_of_getElem? (i := 43) rfl) rfl)
theorem im_Rd_readRange : (Cond.instanceMethod ({ cls := "GridLedger$Reader", name := "readRange", desc := "()V" } : MethodName)) ∈ gTb := (tc_4 (List.mem_of_getElem? (i := 45) rfl) rfl)
theorem ml_Rd_180 : (Cond.methodLink "GridLedger$Reader" (180 : Nat) ({ cls := "GridLedger$Reader", name := "openPick", desc := "(III)V" } : MethodName)) ∈ gTb := (tc_4 (List.mem_of_getElem? (i := 51) rfl) rfl)
theorem im_Rd_openPick : (Cond.instanceMethod ({ cls := "GridLedger$Reader", name := "openPick", desc := "(III)V" } : MethodName)) ∈ gTb := (tc_4 (List.mem_of_getElem? (i := 53) rfl) rfl)
theorem fs_Rd_184 : (Cond.fieldLink "GridLedger$Reader" (184 : Nat) "GridLedger$1" "$SwitchMap$GridLedger$Work" "[I") ∈ gTb := (tc_4 (List.mem_of_getElem? (i := 55) rfl) rfl)
theorem ml_Rd_189 : (Cond.methodLink "GridLedger$Reader" (189 : Nat) ({ cls := "GridLedger$Work", name := "ordinal", desc := "()I" } : MethodName)) ∈ gTb := (tc_4 (List.mem_of_getElem? (i := 57) rfl) rfl)
theorem ml_Tk_64 : (Cond.methodLink "GridLedger$Tokens" (64 : Nat) ({ cls := "GridLedger$Tokens", name := "spells", desc := "(IILjava/lang/String;)Z" } : MethodName)) ∈ gTb := (tc_3 (List.mem_of_getElem? (i := 159) rfl) rfl)
theorem im_Tk_spells : (Cond.instanceMethod ({ cls := "GridLedger$Tokens", name := "spells", desc := "(IILjava/lang/String;)Z" } : MethodName)) ∈ gTb := (tc_3 (List.mem_of_getElem? (i := 161) rfl) rfl)
theorem ml_Tk_77 : (Cond.methodLink "GridLedger$Tokens" (77 : Nat) ({ cls := "java/lang/String", name := "length", desc := "()I" } : MethodName)) ∈ gTb := (tc_3 (List.mem_of_getElem? (i := 163) rfl) rfl)
theorem ml_Tk_83 : (Cond.methodLink "GridLedger$Tokens" (83 : Nat) ({ cls := "java/lang/String", name := "charAt", desc := "(I)C" } : MethodName)) ∈ gTb := (tc_3 (List.mem_of_getElem? (i := 173) rfl) rfl)
theorem fs_Tk_95 : (Cond.fieldLinkNest "GridLedger$Tokens" (95 : Nat) "GridLedger" "WORKS" "[LGridLedger$Work;" "GridLedger") ∈ gNst := (tn_4 (List.mem_of_getElem? (i := 25) rfl) rfl)
theorem fo_Tk_99 : (Cond.fieldLink "GridLedger$Tokens" (99 : Nat) "GridLedger$Work" "title" "Ljava/lang/String;") ∈ gTb := (tc_9 (List.mem_of_getElem? (i := 71) rfl) rfl)
theorem ml_Vl_79 : (Cond.methodLink "GridLedger$Values" (79 : Nat) ({ cls := "GridLedger$Values", name := "writeWord", desc := "(ILjava/lang/String;)V" } : MethodName)) ∈ gTb := (tc_5 (List.mem_of_getElem? (i := 11) rfl) rfl)
theorem im_Vl_writeWord : (Cond.instanceMethod ({ cls := "GridLedger$Values", name := "writeWord", desc := "(ILjava/lang/String;)V" } : MethodName)) ∈ gTb := (tc_5 (List.mem_of_getElem? (i := 13) rfl) rfl)
theorem ml_Vl_72 : (Cond.methodLink "GridLedger$Values" (72 : Nat) ({ cls := "GridLedger$Values", name := "writeDigits", desc := "(I)V" } : MethodName)) ∈ gTb := (tc_5 (List.mem_of_getElem? (i := 1) rfl) rfl)
theorem im_Vl_writeDigits : (Cond.instanceMethod ({ cls := "GridLedger$Values", name := "writeDigits", desc := "(I)V" } : MethodName)) ∈ gTb := (tc_5 (List.mem_of_getElem? (i := 3) rfl) rfl)
theorem ml_Vl_83 : (Cond.methodLink "GridLedger$Values" (83 : Nat) ({ cls := "java/lang/String", name := "length", desc := "()I" } : MethodName)) ∈ gTb := (tc_5 (List.mem_of_getElem? (i := 15) rfl) rfl)
theorem ml_Vl_89 : (Cond.methodLink "GridLedger$Values" (89 : Nat) ({ cls := "java/lang/String", name := "charAt", desc := "(I)C" } : MethodName)) ∈ gTb := (tc_5 (List.mem_of_getElem? (i := 16) rfl) rfl)
theorem ca_Bx_open : gCal y_Bx_open 1 := ⟨(tc_5 (List.mem_of_getElem? (i := 140) rfl) rfl), (tc_1 (List.mem_of_getElem? (i := 11) rfl) rfl), by decide, by decide, by decide +kernel⟩
theorem se_Bx_open : Cond.selects "GridLedger$Boxes" y_Bx_open.1 y_Bx_open.1 ∈ gTb := (tp_4 (List.mem_of_getElem? (i := 11) rfl))
theorem ca_Bx_firstError : gCal y_Bx_firstError 0 := ⟨(tc_5 (List.mem_of_getElem? (i := 147) rfl) rfl), (tc_1 (List.mem_of_getElem? (i := 11) rfl) rfl), by decide, by decide, by decide +kernel⟩
theorem se_Bx_firstError : Cond.selects "GridLedger$Boxes" y_Bx_firstError.1 y_Bx_firstError.1 ∈ gTb := (tp_4 (List.mem_of_getElem? (i := 12) rfl))
theorem ca_Bx_average : gCal y_Bx_average 3 := ⟨(tc_5 (List.mem_of_getElem? (i := 170) rfl) rfl), (tc_1 (List.mem_of_getElem? (i := 11) rfl) rfl), by decide, by decide, by decide +kernel⟩
theorem se_Bx_average : Cond.selects "GridLedger$Boxes" y_Bx_average.1 y_Bx_average.1 ∈ gTb := (tp_4 (List.mem_of_getElem? (i := 13) rfl))
theorem ca_Bx_fits : gCal y_Bx_fits 3 := ⟨(tc_5 (List.mem_of_getElem? (i := 154) rfl) rfl), (tc_1 (List.mem_of_getElem? (i := 11) rfl) rfl), by decide, by decide, by decide +kernel⟩
theorem ca_Bx_gathered : gCal y_Bx_gathered 3 := ⟨(tc_5 (List.mem_of_getElem? (i := 162) rfl) rfl), (tc_1 (List.mem_of_getElem? (i := 11) rfl) rfl), by decide, by decide, by decide +kernel⟩
theorem ca_Vl_plusFits : gCal y_Vl_plusFits 2 := ⟨(tc_5 (List.mem_of_getElem? (i := 54) rfl) rfl), (tc_1 (List.mem_of_getElem? (i := 8) rfl) rfl), by decide, by decide, by decide +kernel⟩
theorem ca_Bx_measured : gCal y_Bx_measured 1 := ⟨(tc_5 (List.mem_of_getElem? (i := 179) rfl) rfl), (tc_1 (List.mem_of_getElem? (i := 11) rfl) rfl), by decide, by decide, by decide +kernel⟩
theorem se_Bx_measured : Cond.selects "GridLedger$Boxes" y_Bx_measured.1 y_Bx_measured.1 ∈ gTb := (tp_4 (List.mem_of_getElem? (i := 14) rfl))
theorem ca_Bx_ofKind : gCal y_Bx_ofKind 1 := ⟨(tc_5 (List.mem_of_getElem? (i := 183) rfl) rfl), (tc_1 (List.mem_of_getElem? (i := 11) rfl) rfl), by decide, by decide, by decide +kernel⟩
theorem se_Bx_ofKind : Cond.selects "GridLedger$Boxes" y_Bx_ofKind.1 y_Bx_ofKind.1 ∈ gTb := (tp_4 (List.mem_of_getElem? (i := 15) rfl))
theorem ca_Bx_match : gCal y_Bx_match 1 := ⟨(tc_5 (List.mem_of_getElem? (i := 200) rfl) rfl), (tc_1 (List.mem_of_getElem? (i := 11) rfl) rfl), by decide, by decide, by decide +kernel⟩
theorem se_Bx_match : Cond.selects "GridLedger$Boxes" y_Bx_match.1 y_Bx_match.1 ∈ gTb := (tp_5 (List.mem_of_getElem? (i := 1) rfl))
theorem ca_Bx_lookUp : gCal y_Bx_lookUp 1 := ⟨(tc_5 (List.mem_of_getElem? (i := 210) rfl) rfl), (tc_1 (List.mem_of_getElem? (i := 11) rfl) rfl), by decide, by decide, by decide +kernel⟩
theorem se_Bx_lookUp : Cond.selects "GridLedger$Boxes" y_Bx_lookUp.1 y_Bx_lookUp.1 ∈ gTb := (tp_5 (List.mem_of_getElem? (i := 3) rfl))
theorem ca_Bx_addUp : gCal y_Bx_addUp 2 := ⟨(tc_5 (List.mem_of_getElem? (i := 214) rfl) rfl), (tc_1 (List.mem_of_getElem? (i := 11) rfl) rfl), by decide, by decide, by decide +kernel⟩
theorem se_Bx_addUp : Cond.selects "GridLedger$Boxes" y_Bx_addUp.1 y_Bx_addUp.1 ∈ gTb := (tp_5 (List.mem_of_getElem? (i := 4) rfl))
theorem ca_Ma_isReady : gCal y_Ma_isReady 2 := ⟨(tc_4 (List.mem_of_getElem? (i := 224) rfl) rfl), (tc_1 (List.mem_of_getElem? (i := 10) rfl) rfl), by decide, by decide, by decide +kernel⟩
theorem se_Ma_isReady : Cond.selects "GridLedger$Machine" y_Ma_isReady.1 y_Ma_isReady.1 ∈ gTb := (tp_3 (List.mem_of_getElem? (i := 5) rfl))
theorem ca_Ma_workOut : gCal y_Ma_workOut 2 := ⟨(tc_5 (List.mem_of_getElem? (i := 30) rfl) rfl), (tc_1 (List.mem_of_getElem? (i := 10) rfl) rfl), by decide, by decide, by decide +kernel⟩
theorem se_Ma_workOut : Cond.selects "GridLedger$Machine" y_Ma_workOut.1 y_Ma_workOut.1 ∈ gTb := (tp_3 (List.mem_of_getElem? (i := 11) rfl))
theorem ca_Ma_decideOrder : gCal y_Ma_decideOrder 2 := ⟨(tc_5 (List.mem_of_getElem? (i := 34) rfl) rfl), (tc_1 (List.mem_of_getElem? (i := 10) rfl) rfl), by decide, by decide, by decide +kernel⟩
theorem se_Ma_decideOrder : Cond.selects "GridLedger$Machine" y_Ma_decideOrder.1 y_Ma_decideOrder.1 ∈ gTb := (tp_3 (List.mem_of_getElem? (i := 12) rfl))
theorem ca_Ma_reckon : gCal y_Ma_reckon 2 := ⟨(tc_5 (List.mem_of_getElem? (i := 51) rfl) rfl), (tc_1 (List.mem_of_getElem? (i := 10) rfl) rfl), by decide, by decide, by decide +kernel⟩
theorem se_Ma_reckon : Cond.selects "GridLedger$Machine" y_Ma_reckon.1 y_Ma_reckon.1 ∈ gTb := (tp_3 (List.mem_of_getElem? (i := 13) rfl))
theorem ca_Ma_decide : gCal y_Ma_decide 2 := ⟨(tc_5 (List.mem_of_getElem? (i := 90) rfl) rfl), (tc_1 (List.mem_of_getElem? (i := 10) rfl) rfl), by decide, by decide, by decide +kernel⟩
theorem se_Ma_decide : Cond.selects "GridLedger$Machine" y_Ma_decide.1 y_Ma_decide.1 ∈ gTb := (tp_4 (List.mem_of_getElem? (i := 2) rfl))
theorem ca_Ma_ask : gCal y_Ma_ask 2 := ⟨(tc_5 (List.mem_of_getElem? (i := 94) rfl) rfl), (tc_1 (List.mem_of_getElem? (i := 10) rfl) rfl), by decide, by decide, by decide +kernel⟩
theorem se_Ma_ask : Cond.selects "GridLedger$Machine" y_Ma_ask.1 y_Ma_ask.1 ∈ gTb := (tp_4 (List.mem_of_getElem? (i := 3) rfl))
theorem ca_Ma_write : gCal y_Ma_write 2 := ⟨(tc_5 (List.mem_of_getElem? (i := 99) rfl) rfl), (tc_1 (List.mem_of_getElem? (i := 10) rfl) rfl), by decide, by decide, by decide +kernel⟩
theorem se_Ma_write : Cond.selects "GridLedger$Machine" y_Ma_write.1 y_Ma_write.1 ∈ gTb := (tp_4 (List.mem_of_getElem? (i := 4) rfl))
theorem ca_Bx_search : gCal y_Bx_search 2 := ⟨(tc_5 (List.mem_of_getElem? (i := 187) rfl) rfl), (tc_1 (List.mem_of_getElem? (i := 11) rfl) rfl), by decide, by decide, by decide +kernel⟩
theorem se_Bx_search : Cond.selects "GridLedger$Boxes" y_Bx_search.1 y_Bx_search.1 ∈ gTb := (tc_5 (List.mem_of_getElem? (i := 186) rfl) rfl)
theorem ca_Bx_gather : gCal y_Bx_gather 2 := ⟨(tc_5 (List.mem_of_getElem? (i := 136) rfl) rfl), (tc_1 (List.mem_of_getElem? (i := 11) rfl) rfl), by decide, by decide, by decide +kernel⟩
theorem se_Bx_gather : Cond.selects "GridLedger$Boxes" y_Bx_gather.1 y_Bx_gather.1 ∈ gTb := (tc_5 (List.mem_of_getElem? (i := 135) rfl) rfl)
theorem ca_Bx_measure : gCal y_Bx_measure 2 := ⟨(tc_5 (List.mem_of_getElem? (i := 175) rfl) rfl), (tc_1 (List.mem_of_getElem? (i := 11) rfl) rfl), by decide, by decide, by decide +kernel⟩
theorem se_Bx_measure : Cond.selects "GridLedger$Boxes" y_Bx_measure.1 y_Bx_measure.1 ∈ gTb := (tc_5 (List.mem_of_getElem? (i := 174) rfl) rfl)
theorem ca_Ma_divide : gCal y_Ma_divide 3 := ⟨(tc_5 (List.mem_of_getElem? (i := 67) rfl) rfl), (tc_1 (List.mem_of_getElem? (i := 10) rfl) rfl), by decide, by decide, by decide +kernel⟩
theorem se_Ma_divide : Cond.selects "GridLedger$Machine" y_Ma_divide.1 y_Ma_divide.1 ∈ gTb := (tp_3 (List.mem_of_getElem? (i := 15) rfl))
theorem ca_Ma_raise : gCal y_Ma_raise 3 := ⟨(tc_5 (List.mem_of_getElem? (i := 74) rfl) rfl), (tc_1 (List.mem_of_getElem? (i := 10) rfl) rfl), by decide, by decide, by decide +kernel⟩
theorem se_Ma_raise : Cond.selects "GridLedger$Machine" y_Ma_raise.1 y_Ma_raise.1 ∈ gTb := (tp_4 (List.mem_of_getElem? (i := 0) rfl))
theorem ca_Ma_modulo : gCal y_Ma_modulo 3 := ⟨(tc_5 (List.mem_of_getElem? (i := 83) rfl) rfl), (tc_1 (List.mem_of_getElem? (i := 10) rfl) rfl), by decide, by decide, by decide +kernel⟩
theorem se_Ma_modulo : Cond.selects "GridLedger$Machine" y_Ma_modulo.1 y_Ma_modulo.1 ∈ gTb := (tp_4 (List.mem_of_getElem? (i := 1) rfl))
theorem ca_Ma_join : gCal y_Ma_join 1 := ⟨(tc_5 (List.mem_of_getElem? (i := 103) rfl) rfl), (tc_1 (List.mem_of_getElem? (i := 10) rfl) rfl), by decide, by decide, by decide +kernel⟩
theorem se_Ma_join : Cond.selects "GridLedger$Machine" y_Ma_join.1 y_Ma_join.1 ∈ gTb := (tp_4 (List.mem_of_getElem? (i := 5) rfl))
theorem ca_Ma_changeCase : gCal y_Ma_changeCase 3 := ⟨(tc_5 (List.mem_of_getElem? (i := 108) rfl) rfl), (tc_1 (List.mem_of_getElem? (i := 10) rfl) rfl), by decide, by decide, by decide +kernel⟩
theorem se_Ma_changeCase : Cond.selects "GridLedger$Machine" y_Ma_changeCase.1 y_Ma_changeCase.1 ∈ gTb := (tp_4 (List.mem_of_getElem? (i := 6) rfl))
theorem ca_Ma_cutOut : gCal y_Ma_cutOut 3 := ⟨(tc_5 (List.mem_of_getElem? (i := 112) rfl) rfl), (tc_1 (List.mem_of_getElem? (i := 10) rfl) rfl), by decide, by decide, by decide +kernel⟩
theorem se_Ma_cutOut : Cond.selects "GridLedger$Machine" y_Ma_cutOut.1 y_Ma_cutOut.1 ∈ gTb := (tp_4 (List.mem_of_getElem? (i := 7) rfl))
theorem ca_Ma_find : gCal y_Ma_find 1 := ⟨(tc_5 (List.mem_of_getElem? (i := 124) rfl) rfl), (tc_1 (List.mem_of_getElem? (i := 10) rfl) rfl), by decide, by decide, by decide +kernel⟩
theorem se_Ma_find : Cond.selects "GridLedger$Machine" y_Ma_find.1 y_Ma_find.1 ∈ gTb := (tp_4 (List.mem_of_getElem? (i := 8) rfl))
theorem ca_Ma_exchange : gCal y_Ma_exchange 1 := ⟨(tc_5 (List.mem_of_getElem? (i := 132) rfl) rfl), (tc_1 (List.mem_of_getElem? (i := 10) rfl) rfl), by decide, by decide, by decide +kernel⟩
theorem se_Ma_exchange : Cond.selects "GridLedger$Machine" y_Ma_exchange.1 y_Ma_exchange.1 ∈ gTb := (tp_4 (List.mem_of_getElem? (i := 10) rfl))
theorem ca_Rd_readArgument : gCal y_Rd_readArgument 3 := ⟨(tc_4 (List.mem_of_getElem? (i := 40) rfl) rfl), (tc_1 (List.mem_of_getElem? (i := 3) rfl) rfl), by decide, by decide, by decide +kernel⟩
theorem se_Rd_readArgument : Cond.selects "GridLedger$Reader" y_Rd_readArgument.1 y_Rd_readArgument.1 ∈ gTb := (tp_2 (List.mem_of_getElem? (i := 2) rfl))
theorem ca_Rd_replaceCode : gCal y_Rd_replaceCode 2 := ⟨(tc_4 (List.mem_of_getElem? (i := 66) rfl) rfl), (tc_1 (List.mem_of_getElem? (i := 3) rfl) rfl), by decide, by decide, by decide +kernel⟩
theorem se_Rd_replaceCode : Cond.selects "GridLedger$Reader" y_Rd_replaceCode.1 y_Rd_replaceCode.1 ∈ gTb := (tp_2 (List.mem_of_getElem? (i := 6) rfl))
theorem ca_Rd_closePicks : gCal y_Rd_closePicks 2 := ⟨(tc_4 (List.mem_of_getElem? (i := 70) rfl) rfl), (tc_1 (List.mem_of_getElem? (i := 3) rfl) rfl), by decide, by decide, by decide +kernel⟩
theorem se_Rd_closePicks : Cond.selects "GridLedger$Reader" y_Rd_closePicks.1 y_Rd_closePicks.1 ∈ gTb := (tp_2 (List.mem_of_getElem? (i := 7) rfl))
theorem ca_Rd_readRange : gCal y_Rd_readRange 0 := ⟨(tc_4 (List.mem_of_getElem? (i := 46) rfl) rfl), (tc_1 (List.mem_of_getElem? (i := 3) rfl) rfl), by decide, by decide, by decide +kernel⟩
theorem se_Rd_readRange : Cond.selects "GridLedger$Reader" y_Rd_readRange.1 y_Rd_readRange.1 ∈ gTb := (tp_2 (List.mem_of_getElem? (i := 3) rfl))
theorem ca_Rd_openPick : gCal y_Rd_openPick 3 := ⟨(tc_4 (List.mem_of_getElem? (i := 54) rfl) rfl), (tc_1 (List.mem_of_getElem? (i := 3) rfl) rfl), by decide, by decide, by decide +kernel⟩
theorem se_Rd_openPick : Cond.selects "GridLedger$Reader" y_Rd_openPick.1 y_Rd_openPick.1 ∈ gTb := (tp_2 (List.mem_of_getElem? (i := 5) rfl))
theorem ca_Tk_spells : gCal y_Tk_spells 3 := ⟨(tc_3 (List.mem_of_getElem? (i := 162) rfl) rfl), (tc_1 (List.mem_of_getElem? (i := 4) rfl) rfl), by decide, by decide, by decide +kernel⟩
theorem se_Tk_spells : Cond.selects "GridLedger$Tokens" y_Tk_spells.1 y_Tk_spells.1 ∈ gTb := (tp_1 (List.mem_of_getElem? (i := 10) rfl))
theorem ca_Vl_writeWord : gCal y_Vl_writeWord 2 := ⟨(tc_5 (List.mem_of_getElem? (i := 14) rfl) rfl), (tc_1 (List.mem_of_getElem? (i := 8) rfl) rfl), by decide, by decide, by decide +kernel⟩
theorem se_Vl_writeWord : Cond.selects "GridLedger$Values" y_Vl_writeWord.1 y_Vl_writeWord.1 ∈ gTb := (tp_3 (List.mem_of_getElem? (i := 9) rfl))
theorem ca_Vl_writeDigits : gCal y_Vl_writeDigits 1 := ⟨(tc_5 (List.mem_of_getElem? (i := 4) rfl) rfl), (tc_1 (List.mem_of_getElem? (i := 8) rfl) rfl), by decide, by decide, by decide +kernel⟩
theorem se_Vl_writeDigits : Cond.selects "GridLedger$Values" y_Vl_writeDigits.1 y_Vl_writeDigits.1 ∈ gTb := (tp_3 (List.mem_of_getElem? (i := 8) rfl))
theorem ml_GM_195 : (Cond.methodLink "GridLedgerModel" (195 : Nat) ({ cls := "GridLedgerModel", name := "spells", desc := "(IILjava/lang/String;)Z" } : MethodName)) ∈ gTb := (tc_7 (List.mem_of_getElem? (i := 205) rfl) rfl)
theorem im_GM_spells : (Cond.instanceMethod ({ cls := "GridLedgerModel", name := "spells", desc := "(IILjava/lang/String;)Z" } : MethodName)) ∈ gTb := (tc_7 (List.mem_of_getElem? (i := 207) rfl) rfl)
theorem ml_GM_201 : (Cond.methodLink "GridLedgerModel" (201 : Nat) ({ cls := "java/lang/String", name := "length", desc := "()I" } : MethodName)) ∈ gTb := (tc_7 (List.mem_of_getElem? (i := 209) rfl) rfl)
theorem ml_GM_207 : (Cond.methodLink "GridLedgerModel" (207 : Nat) ({ cls := "java/lang/String", name := "charAt", desc := "(I)C" } : MethodName)) ∈ gTb := (tc_7 (List.mem_of_getElem? (i := 210) rfl) rfl)
theorem ml_GM_317 : (Cond.methodLink "GridLedgerModel" (317 : Nat) ({ cls := "GridLedgerModel", name := "word", desc := "(ILjava/lang/String;)V" } : MethodName)) ∈ gTb := (tc_8 (List.mem_of_getElem? (i := 131) rfl) rfl)
theorem im_GM_word_2 : (Cond.instanceMethod ({ cls := "GridLedgerModel", name := "word", desc := "(ILjava/lang/String;)V" } : MethodName)) ∈ gTb := (tc_8 (List.mem_of_getElem? (i := 133) rfl) rfl)
theorem ml_GM_400 : (Cond.methodLink "GridLedgerModel" (400 : Nat) ({ cls := "GridLedgerModel", name := "choose", desc := "(II)V" } : MethodName)) ∈ gTb := (tc_8 (List.mem_of_getElem? (i := 173) rfl) rfl)
theorem im_GM_choose : (Cond.instanceMethod ({ cls := "GridLedgerModel", name := "choose", desc := "(II)V" } : MethodName)) ∈ gTb := (tc_8 (List.mem_of_getElem? (i := 175) rfl) rfl)
theorem ml_GM_409 : (Cond.methodLink "GridLedgerModel" (409 : Nat) ({ cls := "GridLedgerModel", name := "function", desc := "(III)V" } : MethodName)) ∈ gTb := (tc_8 (List.mem_of_getElem? (i := 185) rfl) rfl)
theorem im_GM_function : (Cond.instanceMethod ({ cls := "GridLedgerModel", name := "function", desc := "(III)V" } : MethodName)) ∈ gTb := (tc_8 (List.mem_of_getElem? (i := 187) rfl) rfl)
theorem ml_GM_406 : (Cond.methodLink "GridLedgerModel" (406 : Nat) ({ cls := "GridLedgerModel", name := "box", desc := "(I)V" } : MethodName)) ∈ gTb := (tc_8 (List.mem_of_getElem? (i := 181) rfl) rfl)
theorem im_GM_box : (Cond.instanceMethod ({ cls := "GridLedgerModel", name := "box", desc := "(I)V" } : MethodName)) ∈ gTb := (tc_8 (List.mem_of_getElem? (i := 183) rfl) rfl)
theorem ca_GM_spells : gCal y_GM_spells 3 := ⟨(tc_7 (List.mem_of_getElem? (i := 208) rfl) rfl), (tc_1 (List.mem_of_getElem? (i := 12) rfl) rfl), by decide, by decide, by decide +kernel⟩
theorem se_GM_spells : Cond.selects "GridLedgerModel" y_GM_spells.1 y_GM_spells.1 ∈ gTb := (tp_6 (List.mem_of_getElem? (i := 9) rfl))
theorem ca_GM_word_2 : gCal y_GM_word_2 2 := ⟨(tc_8 (List.mem_of_getElem? (i := 134) rfl) rfl), (tc_1 (List.mem_of_getElem? (i := 12) rfl) rfl), by decide, by decide, by decide +kernel⟩
theorem se_GM_word_2 : Cond.selects "GridLedgerModel" y_GM_word_2.1 y_GM_word_2.1 ∈ gTb := (tp_9 (List.mem_of_getElem? (i := 0) rfl))
theorem ca_GM_choose : gCal y_GM_choose 2 := ⟨(tc_8 (List.mem_of_getElem? (i := 176) rfl) rfl), (tc_1 (List.mem_of_getElem? (i := 12) rfl) rfl), by decide, by decide, by decide +kernel⟩
theorem se_GM_choose : Cond.selects "GridLedgerModel" y_GM_choose.1 y_GM_choose.1 ∈ gTb := (tp_9 (List.mem_of_getElem? (i := 9) rfl))
theorem ca_GM_function : gCal y_GM_function 3 := ⟨(tc_8 (List.mem_of_getElem? (i := 188) rfl) rfl), (tc_1 (List.mem_of_getElem? (i := 12) rfl) rfl), by decide, by decide, by decide +kernel⟩
theorem se_GM_function : Cond.selects "GridLedgerModel" y_GM_function.1 y_GM_function.1 ∈ gTb := (tp_9 (List.mem_of_getElem? (i := 12) rfl))
theorem ca_GM_box : gCal y_GM_box 1 := ⟨(tc_8 (List.mem_of_getElem? (i := 184) rfl) rfl), (tc_1 (List.mem_of_getElem? (i := 12) rfl) rfl), by decide, by decide, by decide +kernel⟩
theorem se_GM_box : Cond.selects "GridLedgerModel" y_GM_box.1 y_GM_box.1 ∈ gTb := (tp_9 (List.mem_of_getElem? (i := 11) rfl))
