/-! words, methods, the cells' layout (printed by wip/gen/gen.py) -/
theorem inT0 : ∀ w ∈ u_ws RX0 TX0 2, w ∈ zT := by decide +kernel
theorem inT1 : ∀ w ∈ u_ws RX1 TX1 1, w ∈ zT := by decide +kernel
theorem inT2 : ∀ w ∈ u_ws RX2 TX2 3, w ∈ zT := by decide +kernel
theorem inT3 : ∀ w ∈ u_ws RX3 TX3 8, w ∈ zT := by decide +kernel
theorem inT4 : ∀ w ∈ u_ws RX4 TX4 8, w ∈ zT := by decide +kernel
theorem inT5 : ∀ w ∈ u_ws RX5 TX5 5, w ∈ zT := by decide +kernel
theorem inT6 : ∀ w ∈ u_ws RX6 TX6 10, w ∈ zT := by decide +kernel
theorem inT7 : ∀ w ∈ u_ws RX7 TX7 20, w ∈ zT := by decide +kernel
theorem wf_X6_10 : Cond.fieldLink RX6 10 "LentParts" "now" "LLentParts$State;" ∈ zT := zTin (List.mem_of_getElem? (i := 223) (by decide +kernel)) rfl
theorem wf_X6_16 : Cond.fieldLink RX6 16 "LentParts" "trial" "LLentParts$State;" ∈ zT := zTin (List.mem_of_getElem? (i := 224) (by decide +kernel)) rfl
theorem wf_X6_19 : Cond.fieldLink RX6 19 "LentParts" "snapshot" "LLentParts$State;" ∈ zT := zTin (List.mem_of_getElem? (i := 225) (by decide +kernel)) rfl
theorem wf_X6_25 : Cond.fieldLink RX6 25 "LentParts" "history" "LLentParts$History;" ∈ zT := zTin (List.mem_of_getElem? (i := 226) (by decide +kernel)) rfl
theorem wf_X6_32 : Cond.fieldLink RX6 32 "LentParts" "gathering" "LLentParts$Gathering;" ∈ zT := zTin (List.mem_of_getElem? (i := 227) (by decide +kernel)) rfl
theorem wf_X6_39 : Cond.fieldLink RX6 39 "LentParts" "text" "LLentParts$Text;" ∈ zT := zTin (List.mem_of_getElem? (i := 228) (by decide +kernel)) rfl
theorem wf_X6_83 : Cond.fieldLink RX6 83 "LentParts$State" "value" "[I" ∈ zT := zTin (List.mem_of_getElem? (i := 139) (by decide +kernel)) rfl
theorem wf_X6_107 : Cond.fieldLink RX6 107 "LentParts$Text" "acts" "I" ∈ zT := zTin (List.mem_of_getElem? (i := 211) (by decide +kernel)) rfl
theorem wf_X6_118 : Cond.fieldLink RX6 118 "LentParts" "stopped" "Z" ∈ zT := zTin (List.mem_of_getElem? (i := 230) (by decide +kernel)) rfl
theorem wf_X6_122 : Cond.fieldLink RX6 122 "LentParts" "stoppedAct" "I" ∈ zT := zTin (List.mem_of_getElem? (i := 231) (by decide +kernel)) rfl
theorem wf_X6_125 : Cond.fieldLink RX6 125 "LentParts" "stoppedBy" "I" ∈ zT := zTin (List.mem_of_getElem? (i := 232) (by decide +kernel)) rfl
theorem wf_X6_138 : Cond.fieldLink RX6 138 "LentParts" "kept" "Z" ∈ zT := zTin (List.mem_of_getElem? (i := 229) (by decide +kernel)) rfl
theorem wf_X6_141 : Cond.fieldLink RX6 141 "LentParts$State" "loans" "LLentParts$Loans;" ∈ zT := zTin (List.mem_of_getElem? (i := 150) (by decide +kernel)) rfl
theorem wf_X6_145 : Cond.fieldLink RX6 145 "LentParts$Loans" "standing" "I" ∈ zT := zTin (List.mem_of_getElem? (i := 115) (by decide +kernel)) rfl
theorem wf_X6_150 : Cond.fieldLink RX6 150 "LentParts$State" "version" "[I" ∈ zT := zTin (List.mem_of_getElem? (i := 141) (by decide +kernel)) rfl
theorem wf_X6_153 : Cond.fieldLink RX6 153 "LentParts$State" "owner" "[I" ∈ zT := zTin (List.mem_of_getElem? (i := 143) (by decide +kernel)) rfl
theorem wf_X6_159 : Cond.fieldLink RX6 159 "LentParts$State" "claims" "LLentParts$Claims;" ∈ zT := zTin (List.mem_of_getElem? (i := 147) (by decide +kernel)) rfl
theorem wf_X6_198 : Cond.fieldLink RX6 198 "LentParts$Loans" "lender" "[I" ∈ zT := zTin (List.mem_of_getElem? (i := 101) (by decide +kernel)) rfl
theorem wf_X6_201 : Cond.fieldLink RX6 201 "LentParts$Loans" "borrower" "[I" ∈ zT := zTin (List.mem_of_getElem? (i := 105) (by decide +kernel)) rfl
theorem wf_X6_204 : Cond.fieldLink RX6 204 "LentParts$Loans" "cell" "[I" ∈ zT := zTin (List.mem_of_getElem? (i := 109) (by decide +kernel)) rfl
theorem wf_X6_207 : Cond.fieldLink RX6 207 "LentParts$Loans" "parts" "[I" ∈ zT := zTin (List.mem_of_getElem? (i := 113) (by decide +kernel)) rfl
theorem wf_X6_216 : Cond.fieldLink RX6 216 "LentParts$Loans" "made" "I" ∈ zT := zTin (List.mem_of_getElem? (i := 117) (by decide +kernel)) rfl
theorem wf_X6_225 : Cond.fieldLink RX6 225 "LentParts$State" "writes" "I" ∈ zT := zTin (List.mem_of_getElem? (i := 152) (by decide +kernel)) rfl
theorem wf_X6_228 : Cond.fieldLink RX6 228 "LentParts$Loans" "ended" "I" ∈ zT := zTin (List.mem_of_getElem? (i := 120) (by decide +kernel)) rfl
theorem wf_X6_248 : Cond.fieldLink RX6 248 "LentParts$Text" "slots" "[I" ∈ zT := zTin (List.mem_of_getElem? (i := 209) (by decide +kernel)) rfl
theorem wf_X0_9 : Cond.fieldLink RX0 9 "LentParts$Claims" "agents" "[I" ∈ zT := zTin (List.mem_of_getElem? (i := 84) (by decide +kernel)) rfl
theorem wf_X0_15 : Cond.fieldLink RX0 15 "LentParts$Claims" "sizes" "[I" ∈ zT := zTin (List.mem_of_getElem? (i := 85) (by decide +kernel)) rfl
theorem wf_X1_9 : Cond.fieldLink RX1 9 "LentParts$Gathering" "idleAt" "[I" ∈ zT := zTin (List.mem_of_getElem? (i := 195) (by decide +kernel)) rfl
theorem wf_X1_21 : Cond.fieldLink RX1 21 "LentParts$State" "loans" "LLentParts$Loans;" ∈ zT := zTin (List.mem_of_getElem? (i := 149) (by decide +kernel)) rfl
theorem wf_X1_27 : Cond.fieldLink RX1 27 "LentParts$Loans" "ended" "I" ∈ zT := zTin (List.mem_of_getElem? (i := 118) (by decide +kernel)) rfl
theorem wf_X1_52 : Cond.fieldLink RX1 52 "LentParts$Loans" "borrower" "[I" ∈ zT := zTin (List.mem_of_getElem? (i := 103) (by decide +kernel)) rfl
theorem wf_X1_55 : Cond.fieldLink RX1 55 "LentParts$Loans" "cell" "[I" ∈ zT := zTin (List.mem_of_getElem? (i := 107) (by decide +kernel)) rfl
theorem wf_X1_62 : Cond.fieldLink RX1 62 "LentParts$Loans" "parts" "[I" ∈ zT := zTin (List.mem_of_getElem? (i := 111) (by decide +kernel)) rfl
theorem wf_X2_13 : Cond.fieldLink RX2 13 "LentParts$History" "rows" "[LLentParts$State;" ∈ zT := zTin (List.mem_of_getElem? (i := 179) (by decide +kernel)) rfl
theorem wf_X2_18 : Cond.fieldLink RX2 18 "LentParts$History" "size" "I" ∈ zT := zTin (List.mem_of_getElem? (i := 181) (by decide +kernel)) rfl
theorem wf_X2_22 : Cond.fieldLink RX2 22 "LentParts$History" "open" "I" ∈ zT := zTin (List.mem_of_getElem? (i := 180) (by decide +kernel)) rfl
theorem wf_X3_9 : Cond.fieldLink RX3 9 "LentParts$Loans" "number" "[I" ∈ zT := zTin (List.mem_of_getElem? (i := 98) (by decide +kernel)) rfl
theorem wf_X3_15 : Cond.fieldLink RX3 15 "LentParts$Loans" "lender" "[I" ∈ zT := zTin (List.mem_of_getElem? (i := 99) (by decide +kernel)) rfl
theorem wf_X3_18 : Cond.fieldLink RX3 18 "LentParts$Loans" "borrower" "[I" ∈ zT := zTin (List.mem_of_getElem? (i := 102) (by decide +kernel)) rfl
theorem wf_X3_21 : Cond.fieldLink RX3 21 "LentParts$Loans" "cell" "[I" ∈ zT := zTin (List.mem_of_getElem? (i := 106) (by decide +kernel)) rfl
theorem wf_X3_24 : Cond.fieldLink RX3 24 "LentParts$Loans" "parts" "[I" ∈ zT := zTin (List.mem_of_getElem? (i := 110) (by decide +kernel)) rfl
theorem wf_X3_27 : Cond.fieldLink RX3 27 "LentParts$Loans" "standing" "I" ∈ zT := zTin (List.mem_of_getElem? (i := 114) (by decide +kernel)) rfl
theorem wf_X3_31 : Cond.fieldLink RX3 31 "LentParts$Loans" "made" "I" ∈ zT := zTin (List.mem_of_getElem? (i := 116) (by decide +kernel)) rfl
theorem wf_X3_34 : Cond.fieldLink RX3 34 "LentParts$Loans" "ended" "I" ∈ zT := zTin (List.mem_of_getElem? (i := 119) (by decide +kernel)) rfl
theorem wf_X4_9 : Cond.fieldLink RX4 9 "LentParts$State" "value" "[I" ∈ zT := zTin (List.mem_of_getElem? (i := 138) (by decide +kernel)) rfl
theorem wf_X4_15 : Cond.fieldLink RX4 15 "LentParts$State" "version" "[I" ∈ zT := zTin (List.mem_of_getElem? (i := 140) (by decide +kernel)) rfl
theorem wf_X4_18 : Cond.fieldLink RX4 18 "LentParts$State" "owner" "[I" ∈ zT := zTin (List.mem_of_getElem? (i := 142) (by decide +kernel)) rfl
theorem wf_X4_21 : Cond.fieldLink RX4 21 "LentParts$State" "held" "[I" ∈ zT := zTin (List.mem_of_getElem? (i := 144) (by decide +kernel)) rfl
theorem wf_X4_24 : Cond.fieldLink RX4 24 "LentParts$State" "holding" "[I" ∈ zT := zTin (List.mem_of_getElem? (i := 145) (by decide +kernel)) rfl
theorem wf_X4_30 : Cond.fieldLink RX4 30 "LentParts$State" "claims" "LLentParts$Claims;" ∈ zT := zTin (List.mem_of_getElem? (i := 146) (by decide +kernel)) rfl
theorem wf_X4_37 : Cond.fieldLink RX4 37 "LentParts$State" "loans" "LLentParts$Loans;" ∈ zT := zTin (List.mem_of_getElem? (i := 148) (by decide +kernel)) rfl
theorem wf_X4_54 : Cond.fieldLink RX4 54 "LentParts$State" "writes" "I" ∈ zT := zTin (List.mem_of_getElem? (i := 151) (by decide +kernel)) rfl
theorem wf_X4_95 : Cond.fieldLink RX4 95 "LentParts$Loans" "lender" "[I" ∈ zT := zTin (List.mem_of_getElem? (i := 100) (by decide +kernel)) rfl
theorem wf_X4_98 : Cond.fieldLink RX4 98 "LentParts$Loans" "cell" "[I" ∈ zT := zTin (List.mem_of_getElem? (i := 108) (by decide +kernel)) rfl
theorem wf_X4_101 : Cond.fieldLink RX4 101 "LentParts$Loans" "borrower" "[I" ∈ zT := zTin (List.mem_of_getElem? (i := 104) (by decide +kernel)) rfl
theorem wf_X4_104 : Cond.fieldLink RX4 104 "LentParts$Loans" "parts" "[I" ∈ zT := zTin (List.mem_of_getElem? (i := 112) (by decide +kernel)) rfl
theorem wf_X5_9 : Cond.fieldLink RX5 9 "LentParts$Text" "signs" "[I" ∈ zT := zTin (List.mem_of_getElem? (i := 205) (by decide +kernel)) rfl
theorem wf_X5_15 : Cond.fieldLink RX5 15 "LentParts$Text" "slots" "[I" ∈ zT := zTin (List.mem_of_getElem? (i := 208) (by decide +kernel)) rfl
theorem wf_X5_18 : Cond.fieldLink RX5 18 "LentParts$Text" "length" "I" ∈ zT := zTin (List.mem_of_getElem? (i := 206) (by decide +kernel)) rfl
theorem wf_X5_22 : Cond.fieldLink RX5 22 "LentParts$Text" "place" "I" ∈ zT := zTin (List.mem_of_getElem? (i := 207) (by decide +kernel)) rfl
theorem wf_X5_25 : Cond.fieldLink RX5 25 "LentParts$Text" "acts" "I" ∈ zT := zTin (List.mem_of_getElem? (i := 210) (by decide +kernel)) rfl
theorem wf_X7_7 : Cond.fieldLink RX7 7 "LentPartsModel" "s" "[I" ∈ zT := zTin (List.mem_of_getElem? (i := 663) (by decide +kernel)) rfl
theorem wf_X7_13 : Cond.fieldLink RX7 13 "LentPartsModel" "aside" "[I" ∈ zT := zTin (List.mem_of_getElem? (i := 664) (by decide +kernel)) rfl
theorem wf_X7_16 : Cond.fieldLink RX7 16 "LentPartsModel" "asideToo" "[I" ∈ zT := zTin (List.mem_of_getElem? (i := 665) (by decide +kernel)) rfl
theorem wf_X7_19 : Cond.fieldLink RX7 19 "LentPartsModel" "before" "[I" ∈ zT := zTin (List.mem_of_getElem? (i := 666) (by decide +kernel)) rfl
theorem wf_X7_22 : Cond.fieldLink RX7 22 "LentPartsModel" "kept" "[I" ∈ zT := zTin (List.mem_of_getElem? (i := 668) (by decide +kernel)) rfl
theorem wf_X7_25 : Cond.fieldLink RX7 25 "LentPartsModel" "text" "[I" ∈ zT := zTin (List.mem_of_getElem? (i := 670) (by decide +kernel)) rfl
theorem wf_X7_28 : Cond.fieldLink RX7 28 "LentPartsModel" "stoppedAt" "I" ∈ zT := zTin (List.mem_of_getElem? (i := 672) (by decide +kernel)) rfl
theorem wf_X7_32 : Cond.fieldLink RX7 32 "LentPartsModel" "stoppedBy" "I" ∈ zT := zTin (List.mem_of_getElem? (i := 673) (by decide +kernel)) rfl
theorem wf_X7_35 : Cond.fieldLink RX7 35 "LentPartsModel" "agents" "[I" ∈ zT := zTin (List.mem_of_getElem? (i := 674) (by decide +kernel)) rfl
theorem wf_X7_38 : Cond.fieldLink RX7 38 "LentPartsModel" "ats" "[I" ∈ zT := zTin (List.mem_of_getElem? (i := 675) (by decide +kernel)) rfl
theorem wf_X7_41 : Cond.fieldLink RX7 41 "LentPartsModel" "waits" "[Z" ∈ zT := zTin (List.mem_of_getElem? (i := 676) (by decide +kernel)) rfl
theorem wf_X7_45 : Cond.fieldLink RX7 45 "LentPartsModel" "told" "[I" ∈ zT := zTin (List.mem_of_getElem? (i := 680) (by decide +kernel)) rfl
theorem wf_X7_48 : Cond.fieldLink RX7 48 "LentPartsModel" "ends" "[Z" ∈ zT := zTin (List.mem_of_getElem? (i := 682) (by decide +kernel)) rfl
theorem wf_X7_66 : Cond.fieldLink RX7 66 "LentPartsModel" "known" "I" ∈ zT := zTin (List.mem_of_getElem? (i := 667) (by decide +kernel)) rfl
theorem wf_X7_75 : Cond.fieldLink RX7 75 "LentPartsModel" "deep" "I" ∈ zT := zTin (List.mem_of_getElem? (i := 677) (by decide +kernel)) rfl
theorem wf_X7_148 : Cond.fieldLink RX7 148 "LentPartsModel" "typed" "I" ∈ zT := zTin (List.mem_of_getElem? (i := 671) (by decide +kernel)) rfl
theorem wf_X7_151 : Cond.fieldLink RX7 151 "LentPartsModel" "at" "I" ∈ zT := zTin (List.mem_of_getElem? (i := 678) (by decide +kernel)) rfl
theorem wf_X7_154 : Cond.fieldLink RX7 154 "LentPartsModel" "isWrong" "Z" ∈ zT := zTin (List.mem_of_getElem? (i := 679) (by decide +kernel)) rfl
theorem wf_X7_168 : Cond.fieldLink RX7 168 "LentPartsModel" "fault" "I" ∈ zT := zTin (List.mem_of_getElem? (i := 681) (by decide +kernel)) rfl
theorem wf_X7_181 : Cond.fieldLink RX7 181 "LentPartsModel" "isKept" "Z" ∈ zT := zTin (List.mem_of_getElem? (i := 669) (by decide +kernel)) rfl
theorem wc_J6_265 : Cond.constant RJ6 265 1431655765 ∈ zT := zTin (List.mem_of_getElem? (i := 580) (by decide +kernel)) rfl
theorem wc_J6_266 : Cond.constant RJ6 266 858993459 ∈ zT := zTin (List.mem_of_getElem? (i := 581) (by decide +kernel)) rfl
theorem wc_J6_267 : Cond.constant RJ6 267 252645135 ∈ zT := zTin (List.mem_of_getElem? (i := 582) (by decide +kernel)) rfl
theorem wl_X6_43 : Cond.methodLink RX6 43 yX2_open ∈ zT := zTin (List.mem_of_getElem? (i := 258) (by decide +kernel)) rfl
theorem wl_X6_47 : Cond.methodLink RX6 47 yX4_makeLoan ∈ zT := zTin (List.mem_of_getElem? (i := 279) (by decide +kernel)) rfl
theorem wl_X6_51 : Cond.methodLink RX6 51 yX6_close ∈ zT := zTin (List.mem_of_getElem? (i := 309) (by decide +kernel)) rfl
theorem wl_X6_55 : Cond.methodLink RX6 55 yX4_makeHalfLoan ∈ zT := zTin (List.mem_of_getElem? (i := 329) (by decide +kernel)) rfl
theorem wl_X6_59 : Cond.methodLink RX6 59 yX4_endLoan ∈ zT := zTin (List.mem_of_getElem? (i := 338) (by decide +kernel)) rfl
theorem wl_X6_62 : Cond.methodLink RX6 62 yX6_gatherCell ∈ zT := zTin (List.mem_of_getElem? (i := 358) (by decide +kernel)) rfl
theorem wl_X6_66 : Cond.methodLink RX6 66 yX4_setHolding ∈ zT := zTin (List.mem_of_getElem? (i := 389) (by decide +kernel)) rfl
theorem wl_X6_70 : Cond.methodLink RX6 70 yX4_writeValue ∈ zT := zTin (List.mem_of_getElem? (i := 397) (by decide +kernel)) rfl
theorem wl_X6_73 : Cond.methodLink RX6 73 yX6_isAgent ∈ zT := zTin (List.mem_of_getElem? (i := 362) (by decide +kernel)) rfl
theorem wl_X6_77 : Cond.methodLink RX6 77 yX6_isCell ∈ zT := zTin (List.mem_of_getElem? (i := 363) (by decide +kernel)) rfl
theorem wl_X6_80 : Cond.methodLink RX6 80 yX4_heldBy ∈ zT := zTin (List.mem_of_getElem? (i := 384) (by decide +kernel)) rfl
theorem wl_X6_87 : Cond.methodLink RX6 87 yX4_setClaim ∈ zT := zTin (List.mem_of_getElem? (i := 409) (by decide +kernel)) rfl
theorem wl_X6_90 : Cond.methodLink RX6 90 yX6_serveClaims ∈ zT := zTin (List.mem_of_getElem? (i := 433) (by decide +kernel)) rfl
theorem wl_X6_93 : Cond.methodLink RX6 93 yX4_changeOwner ∈ zT := zTin (List.mem_of_getElem? (i := 451) (by decide +kernel)) rfl
theorem wl_X6_96 : Cond.methodLink RX6 96 yX5_append ∈ zT := zTin (List.mem_of_getElem? (i := 463) (by decide +kernel)) rfl
theorem wl_X6_100 : Cond.methodLink RX6 100 yX5_empty ∈ zT := zTin (List.mem_of_getElem? (i := 471) (by decide +kernel)) rfl
theorem wl_X6_104 : Cond.methodLink RX6 104 yX5_findFault ∈ zT := zTin (List.mem_of_getElem? (i := 479) (by decide +kernel)) rfl
theorem wl_X6_111 : Cond.methodLink RX6 111 yX6_performAct ∈ zT := zTin (List.mem_of_getElem? (i := 527) (by decide +kernel)) rfl
theorem wl_X6_114 : Cond.methodLink RX6 114 yX6_noteStop ∈ zT := zTin (List.mem_of_getElem? (i := 531) (by decide +kernel)) rfl
theorem wl_X6_128 : Cond.methodLink RX6 128 yX2_takeLatest ∈ zT := zTin (List.mem_of_getElem? (i := 543) (by decide +kernel)) rfl
theorem wl_X6_132 : Cond.methodLink RX6 132 yX4_copyFrom ∈ zT := zTin (List.mem_of_getElem? (i := 317) (by decide +kernel)) rfl
theorem wl_X6_135 : Cond.methodLink RX6 135 yX2_size ∈ zT := zTin (List.mem_of_getElem? (i := 547) (by decide +kernel)) rfl
theorem wl_X6_156 : Cond.methodLink RX6 156 yX4_countReaders ∈ zT := zTin (List.mem_of_getElem? (i := 563) (by decide +kernel)) rfl
theorem wl_X6_163 : Cond.methodLink RX6 163 yX0_size ∈ zT := zTin (List.mem_of_getElem? (i := 437) (by decide +kernel)) rfl
theorem wl_X6_167 : Cond.methodLink RX6 167 yX0_first ∈ zT := zTin (List.mem_of_getElem? (i := 567) (by decide +kernel)) rfl
theorem wl_X6_170 : Cond.methodLink RX6 170 yX3_countOf ∈ zT := zTin (List.mem_of_getElem? (i := 568) (by decide +kernel)) rfl
theorem wl_X6_173 : Cond.methodLink RX6 173 yX4_holderOfWhole ∈ zT := zTin (List.mem_of_getElem? (i := 569) (by decide +kernel)) rfl
theorem wl_X6_176 : Cond.methodLink RX6 176 yX4_countHolding ∈ zT := zTin (List.mem_of_getElem? (i := 573) (by decide +kernel)) rfl
theorem wl_X6_179 : Cond.methodLink RX6 179 yX3_partsLent ∈ zT := zTin (List.mem_of_getElem? (i := 587) (by decide +kernel)) rfl
theorem wl_X6_182 : Cond.methodLink RX6 182 yX3_partsBorrowed ∈ zT := zTin (List.mem_of_getElem? (i := 595) (by decide +kernel)) rfl
theorem wl_X6_185 : Cond.methodLink RX6 185 yX4_isHolding ∈ zT := zTin (List.mem_of_getElem? (i := 438) (by decide +kernel)) rfl
theorem wl_X6_189 : Cond.methodLink RX6 189 yX0_placeOf ∈ zT := zTin (List.mem_of_getElem? (i := 599) (by decide +kernel)) rfl
theorem wl_X6_192 : Cond.methodLink RX6 192 yX6_heldAfterGathering ∈ zT := zTin (List.mem_of_getElem? (i := 600) (by decide +kernel)) rfl
theorem wl_X6_195 : Cond.methodLink RX6 195 yX3_rowOf ∈ zT := zTin (List.mem_of_getElem? (i := 608) (by decide +kernel)) rfl
theorem wl_X6_210 : Cond.methodLink RX6 210 yX4_canEndLoan ∈ zT := zTin (List.mem_of_getElem? (i := 609) (by decide +kernel)) rfl
theorem wl_X6_213 : Cond.methodLink RX6 213 yX3_longestChain ∈ zT := zTin (List.mem_of_getElem? (i := 618) (by decide +kernel)) rfl
theorem wl_X6_219 : Cond.methodLink RX6 219 yX4_countWholeCells ∈ zT := zTin (List.mem_of_getElem? (i := 636) (by decide +kernel)) rfl
theorem wl_X6_222 : Cond.methodLink RX6 222 yX0_sizeOfAll ∈ zT := zTin (List.mem_of_getElem? (i := 641) (by decide +kernel)) rfl
theorem wl_X6_231 : Cond.methodLink RX6 231 yX4_countAllHolding ∈ zT := zTin (List.mem_of_getElem? (i := 645) (by decide +kernel)) rfl
theorem wl_X6_234 : Cond.methodLink RX6 234 yX5_size ∈ zT := zTin (List.mem_of_getElem? (i := 650) (by decide +kernel)) rfl
theorem wl_X6_235 : Cond.methodLink RX6 235 yX2_opened ∈ zT := zTin (List.mem_of_getElem? (i := 313) (by decide +kernel)) rfl
theorem wl_X6_238 : Cond.methodLink RX6 238 yX2_record ∈ zT := zTin (List.mem_of_getElem? (i := 318) (by decide +kernel)) rfl
theorem wl_X6_241 : Cond.methodLink RX6 241 yX1_run ∈ zT := zTin (List.mem_of_getElem? (i := 364) (by decide +kernel)) rfl
theorem wl_X6_245 : Cond.methodLink RX6 245 yX4_grantFirstClaim ∈ zT := zTin (List.mem_of_getElem? (i := 439) (by decide +kernel)) rfl
theorem wl_X0_18 : Cond.methodLink RX0 18 arraycopyName ∈ zT := zTin (List.mem_of_getElem? (i := 273) (by decide +kernel)) rfl
theorem wl_X1_15 : Cond.methodLink RX1 15 yJ7_fill_53178 ∈ zT := zTin (List.mem_of_getElem? (i := 368) (by decide +kernel)) rfl
theorem wl_X1_33 : Cond.methodLink RX1 33 yX1_gatherFor ∈ zT := zTin (List.mem_of_getElem? (i := 371) (by decide +kernel)) rfl
theorem wl_X1_37 : Cond.methodLink RX1 37 yX3_latestAhead ∈ zT := zTin (List.mem_of_getElem? (i := 374) (by decide +kernel)) rfl
theorem wl_X1_41 : Cond.methodLink RX1 41 yX1_needyBorrower ∈ zT := zTin (List.mem_of_getElem? (i := 378) (by decide +kernel)) rfl
theorem wl_X1_45 : Cond.methodLink RX1 45 yX4_endLoan ∈ zT := zTin (List.mem_of_getElem? (i := 383) (by decide +kernel)) rfl
theorem wl_X1_49 : Cond.methodLink RX1 49 yX3_rowOf ∈ zT := zTin (List.mem_of_getElem? (i := 381) (by decide +kernel)) rfl
theorem wl_X1_58 : Cond.methodLink RX1 58 yX4_heldBy ∈ zT := zTin (List.mem_of_getElem? (i := 382) (by decide +kernel)) rfl
theorem wl_X2_25 : Cond.methodLink RX2 25 yX4_copyFrom ∈ zT := zTin (List.mem_of_getElem? (i := 262) (by decide +kernel)) rfl
theorem wl_X2_29 : Cond.methodLink RX2 29 yJ9_min_7cf53 ∈ zT := zTin (List.mem_of_getElem? (i := 322) (by decide +kernel)) rfl
theorem wl_X3_37 : Cond.methodLink RX3 37 arraycopyName ∈ zT := zTin (List.mem_of_getElem? (i := 278) (by decide +kernel)) rfl
theorem wl_X3_43 : Cond.methodLink RX3 43 yX3_sumParts ∈ zT := zTin (List.mem_of_getElem? (i := 591) (by decide +kernel)) rfl
theorem wl_X3_47 : Cond.methodLink RX3 47 yX3_linksOf ∈ zT := zTin (List.mem_of_getElem? (i := 622) (by decide +kernel)) rfl
theorem wl_X3_51 : Cond.methodLink RX3 51 yX3_longestFrom ∈ zT := zTin (List.mem_of_getElem? (i := 626) (by decide +kernel)) rfl
theorem wl_X3_55 : Cond.methodLink RX3 55 yJ9_max_7cf53 ∈ zT := zTin (List.mem_of_getElem? (i := 629) (by decide +kernel)) rfl
theorem wl_X4_41 : Cond.methodLink RX4 41 arraycopyName ∈ zT := zTin (List.mem_of_getElem? (i := 266) (by decide +kernel)) rfl
theorem wl_X4_47 : Cond.methodLink RX4 47 yX0_copyFrom ∈ zT := zTin (List.mem_of_getElem? (i := 269) (by decide +kernel)) rfl
theorem wl_X4_51 : Cond.methodLink RX4 51 yX3_copyFrom ∈ zT := zTin (List.mem_of_getElem? (i := 274) (by decide +kernel)) rfl
theorem wl_X4_58 : ∀ U, zNe U → va_Nw (.methodLinkNest RX4 58 yX6_isAgent "LentParts") U := fun _ h => h.1
theorem wl_X4_62 : ∀ U, zNe U → va_Nw (.methodLinkNest RX4 62 yX6_isCell "LentParts") U := fun _ h => h.2
theorem wl_X4_65 : Cond.methodLink RX4 65 yX4_heldBy ∈ zT := zTin (List.mem_of_getElem? (i := 289) (by decide +kernel)) rfl
theorem wl_X4_69 : Cond.methodLink RX4 69 yX4_isHolding ∈ zT := zTin (List.mem_of_getElem? (i := 293) (by decide +kernel)) rfl
theorem wl_X4_73 : Cond.methodLink RX4 73 yX3_hasRoom ∈ zT := zTin (List.mem_of_getElem? (i := 297) (by decide +kernel)) rfl
theorem wl_X4_77 : Cond.methodLink RX4 77 yX4_moveParts ∈ zT := zTin (List.mem_of_getElem? (i := 301) (by decide +kernel)) rfl
theorem wl_X4_81 : Cond.methodLink RX4 81 yX3_append ∈ zT := zTin (List.mem_of_getElem? (i := 305) (by decide +kernel)) rfl
theorem wl_X4_85 : Cond.methodLink RX4 85 yX4_makeLoan ∈ zT := zTin (List.mem_of_getElem? (i := 333) (by decide +kernel)) rfl
theorem wl_X4_88 : Cond.methodLink RX4 88 yX3_rowOf ∈ zT := zTin (List.mem_of_getElem? (i := 342) (by decide +kernel)) rfl
theorem wl_X4_92 : Cond.methodLink RX4 92 yX4_canEndLoan ∈ zT := zTin (List.mem_of_getElem? (i := 346) (by decide +kernel)) rfl
theorem wl_X4_107 : Cond.methodLink RX4 107 yX3_remove ∈ zT := zTin (List.mem_of_getElem? (i := 350) (by decide +kernel)) rfl
theorem wl_X4_111 : Cond.methodLink RX4 111 yX0_placeOf ∈ zT := zTin (List.mem_of_getElem? (i := 413) (by decide +kernel)) rfl
theorem wl_X4_114 : Cond.methodLink RX4 114 yX0_append ∈ zT := zTin (List.mem_of_getElem? (i := 417) (by decide +kernel)) rfl
theorem wl_X4_117 : Cond.methodLink RX4 117 yX0_remove ∈ zT := zTin (List.mem_of_getElem? (i := 421) (by decide +kernel)) rfl
theorem wl_X4_119 : Cond.methodLink RX4 119 yX0_size ∈ zT := zTin (List.mem_of_getElem? (i := 425) (by decide +kernel)) rfl
theorem wl_X4_122 : Cond.methodLink RX4 122 yX0_first ∈ zT := zTin (List.mem_of_getElem? (i := 443) (by decide +kernel)) rfl
theorem wl_X4_125 : Cond.methodLink RX4 125 yX3_countOf ∈ zT := zTin (List.mem_of_getElem? (i := 455) (by decide +kernel)) rfl
theorem wl_X4_128 : Cond.methodLink RX4 128 yX4_holderOfWhole ∈ zT := zTin (List.mem_of_getElem? (i := 640) (by decide +kernel)) rfl
theorem wl_X4_131 : Cond.methodLink RX4 131 yJ6_bitCount_0f7a4 ∈ zT := zTin (List.mem_of_getElem? (i := 577) (by decide +kernel)) rfl
theorem wl_X4_136 : Cond.methodLink RX4 136 yX4_countHolding ∈ zT := zTin (List.mem_of_getElem? (i := 649) (by decide +kernel)) rfl
theorem wl_X5_28 : Cond.methodLink RX5 28 yX5_readAct ∈ zT := zTin (List.mem_of_getElem? (i := 483) (by decide +kernel)) rfl
theorem wl_X5_32 : Cond.methodLink RX5 32 yX5_readSign ∈ zT := zTin (List.mem_of_getElem? (i := 495) (by decide +kernel)) rfl
theorem wl_X5_36 : Cond.methodLink RX5 36 yX5_signHere ∈ zT := zTin (List.mem_of_getElem? (i := 487) (by decide +kernel)) rfl
theorem wl_X5_40 : Cond.methodLink RX5 40 yX5_readLoan ∈ zT := zTin (List.mem_of_getElem? (i := 491) (by decide +kernel)) rfl
theorem wl_X5_43 : Cond.methodLink RX5 43 yX5_readReturn ∈ zT := zTin (List.mem_of_getElem? (i := 515) (by decide +kernel)) rfl
theorem wl_X5_46 : Cond.methodLink RX5 46 yX5_readWrite ∈ zT := zTin (List.mem_of_getElem? (i := 519) (by decide +kernel)) rfl
theorem wl_X5_49 : Cond.methodLink RX5 49 yX5_readGathering ∈ zT := zTin (List.mem_of_getElem? (i := 523) (by decide +kernel)) rfl
theorem wl_X5_52 : Cond.methodLink RX5 52 yX5_readDigit ∈ zT := zTin (List.mem_of_getElem? (i := 499) (by decide +kernel)) rfl
theorem wl_X5_56 : Cond.methodLink RX5 56 yX5_readPair ∈ zT := zTin (List.mem_of_getElem? (i := 507) (by decide +kernel)) rfl
theorem wl_X5_59 : Cond.methodLink RX5 59 yX5_readNumber ∈ zT := zTin (List.mem_of_getElem? (i := 511) (by decide +kernel)) rfl
theorem wl_X5_63 : Cond.methodLink RX5 63 yX5_digitHere ∈ zT := zTin (List.mem_of_getElem? (i := 503) (by decide +kernel)) rfl
theorem wl_X7_51 : Cond.methodLink RX7 51 yX7_held ∈ zT := zTin (List.mem_of_getElem? (i := 660) (by decide +kernel)) rfl
theorem wl_X7_55 : Cond.methodLink RX7 55 yX7_in ∈ zT := zTin (List.mem_of_getElem? (i := 736) (by decide +kernel)) rfl
theorem wl_X7_59 : Cond.methodLink RX7 59 yX7_isAgent ∈ zT := zTin (List.mem_of_getElem? (i := 733) (by decide +kernel)) rfl
theorem wl_X7_63 : Cond.methodLink RX7 63 yX7_isCell ∈ zT := zTin (List.mem_of_getElem? (i := 739) (by decide +kernel)) rfl
theorem wl_X7_69 : Cond.methodLink RX7 69 yX7_of ∈ zT := zTin (List.mem_of_getElem? (i := 757) (by decide +kernel)) rfl
theorem wl_X7_72 : Cond.methodLink RX7 72 yX7_holds ∈ zT := zTin (List.mem_of_getElem? (i := 742) (by decide +kernel)) rfl
theorem wl_X7_78 : Cond.methodLink RX7 78 yX7_enter ∈ zT := zTin (List.mem_of_getElem? (i := 799) (by decide +kernel)) rfl
theorem wl_X7_82 : Cond.methodLink RX7 82 yX7_placeOf ∈ zT := zTin (List.mem_of_getElem? (i := 772) (by decide +kernel)) rfl
theorem wl_X7_86 : Cond.methodLink RX7 86 yX7_latest ∈ zT := zTin (List.mem_of_getElem? (i := 803) (by decide +kernel)) rfl
theorem wl_X7_90 : Cond.methodLink RX7 90 yX7_isGathering ∈ zT := zTin (List.mem_of_getElem? (i := 807) (by decide +kernel)) rfl
theorem wl_X7_93 : Cond.methodLink RX7 93 yX7_canGive ∈ zT := zTin (List.mem_of_getElem? (i := 776) (by decide +kernel)) rfl
theorem wl_X7_96 : Cond.methodLink RX7 96 yX7_gives ∈ zT := zTin (List.mem_of_getElem? (i := 780) (by decide +kernel)) rfl
theorem wl_X7_99 : Cond.methodLink RX7 99 yX7_gathers ∈ zT := zTin (List.mem_of_getElem? (i := 795) (by decide +kernel)) rfl
theorem wl_X7_102 : Cond.methodLink RX7 102 yX7_isFull ∈ zT := zTin (List.mem_of_getElem? (i := 745) (by decide +kernel)) rfl
theorem wl_X7_106 : Cond.methodLink RX7 106 yX7_areBoth ∈ zT := zTin (List.mem_of_getElem? (i := 788) (by decide +kernel)) rfl
theorem wl_X7_110 : Cond.methodLink RX7 110 yX7_lendFault ∈ zT := zTin (List.mem_of_getElem? (i := 729) (by decide +kernel)) rfl
theorem wl_X7_114 : Cond.methodLink RX7 114 yX7_know ∈ zT := zTin (List.mem_of_getElem? (i := 749) (by decide +kernel)) rfl
theorem wl_X7_117 : Cond.methodLink RX7 117 yX7_lends ∈ zT := zTin (List.mem_of_getElem? (i := 753) (by decide +kernel)) rfl
theorem wl_X7_120 : Cond.methodLink RX7 120 yX7_backFault ∈ zT := zTin (List.mem_of_getElem? (i := 768) (by decide +kernel)) rfl
theorem wl_X7_123 : Cond.methodLink RX7 123 yX7_putAside ∈ zT := zTin (List.mem_of_getElem? (i := 791) (by decide +kernel)) rfl
theorem wl_X7_126 : Cond.methodLink RX7 126 yX7_putBack ∈ zT := zTin (List.mem_of_getElem? (i := 811) (by decide +kernel)) rfl
theorem wl_X7_129 : Cond.methodLink RX7 129 yX7_writeFault ∈ zT := zTin (List.mem_of_getElem? (i := 823) (by decide +kernel)) rfl
theorem wl_X7_132 : Cond.methodLink RX7 132 yX7_writes ∈ zT := zTin (List.mem_of_getElem? (i := 827) (by decide +kernel)) rfl
theorem wl_X7_135 : Cond.methodLink RX7 135 yX7_placeOfClaim ∈ zT := zTin (List.mem_of_getElem? (i := 839) (by decide +kernel)) rfl
theorem wl_X7_138 : Cond.methodLink RX7 138 yX7_dropClaim ∈ zT := zTin (List.mem_of_getElem? (i := 843) (by decide +kernel)) rfl
theorem wl_X7_142 : Cond.methodLink RX7 142 yX7_serves ∈ zT := zTin (List.mem_of_getElem? (i := 851) (by decide +kernel)) rfl
theorem wl_X7_145 : Cond.methodLink RX7 145 yX7_loansOf ∈ zT := zTin (List.mem_of_getElem? (i := 859) (by decide +kernel)) rfl
theorem wl_X7_158 : Cond.methodLink RX7 158 yX7_sign ∈ zT := zTin (List.mem_of_getElem? (i := 887) (by decide +kernel)) rfl
theorem wl_X7_161 : Cond.methodLink RX7 161 yX7_number ∈ zT := zTin (List.mem_of_getElem? (i := 883) (by decide +kernel)) rfl
theorem wl_X7_164 : Cond.methodLink RX7 164 yX7_digit ∈ zT := zTin (List.mem_of_getElem? (i := 891) (by decide +kernel)) rfl
theorem wl_X7_171 : Cond.methodLink RX7 171 yX7_order ∈ zT := zTin (List.mem_of_getElem? (i := 879) (by decide +kernel)) rfl
theorem wl_X7_174 : Cond.methodLink RX7 174 yX7_does ∈ zT := zTin (List.mem_of_getElem? (i := 895) (by decide +kernel)) rfl
theorem wl_X7_177 : Cond.methodLink RX7 177 yX7_go ∈ zT := zTin (List.mem_of_getElem? (i := 875) (by decide +kernel)) rfl
theorem wl_X7_184 : Cond.methodLink RX7 184 yX7_agentsOf ∈ zT := zTin (List.mem_of_getElem? (i := 919) (by decide +kernel)) rfl
theorem wl_X7_187 : Cond.methodLink RX7 187 yX7_wholeOf ∈ zT := zTin (List.mem_of_getElem? (i := 923) (by decide +kernel)) rfl
theorem wl_X7_190 : Cond.methodLink RX7 190 yX7_sum ∈ zT := zTin (List.mem_of_getElem? (i := 931) (by decide +kernel)) rfl
theorem wl_X7_193 : Cond.methodLink RX7 193 yX7_wouldGather ∈ zT := zTin (List.mem_of_getElem? (i := 935) (by decide +kernel)) rfl
theorem wl_X7_196 : Cond.methodLink RX7 196 yX7_sumOfCells ∈ zT := zTin (List.mem_of_getElem? (i := 955) (by decide +kernel)) rfl
theorem wn_copy : Cond.native arraycopyName ∈ zT := zTin (List.mem_of_getElem? (i := 268) (by decide +kernel)) rfl
theorem ws_copy : Cond.static arraycopyName ∈ zT := zTin (List.mem_of_getElem? (i := 267) (by decide +kernel)) rfl
theorem wi_copy : Cond.initialized "java/lang/System" ∈ zT := zTin (List.mem_of_getElem? (i := 60) (by decide +kernel)) rfl
abbrev mX0_copyFrom : zM := (yX0_copyFrom, cX0_copyFrom, 2, none)
theorem wm_X0_copyFrom : zMv mX0_copyFrom 1 := ⟨zTin (List.mem_of_getElem? (i := 272) (by decide +kernel)) rfl, zTin (List.mem_of_getElem? (i := 54) (by decide +kernel)) rfl, by decide +kernel, by decide +kernel⟩
theorem wi_X0_copyFrom : zMi mX0_copyFrom := ⟨zTin (List.mem_of_getElem? (i := 270) (by decide +kernel)) rfl, zTin (List.mem_of_getElem? (i := 271) (by decide +kernel)) rfl⟩
abbrev mX0_size : zM := (yX0_size, cX0_size, 2, (some .int))
theorem wm_X0_size : zMv mX0_size 1 := ⟨zTin (List.mem_of_getElem? (i := 428) (by decide +kernel)) rfl, zTin (List.mem_of_getElem? (i := 54) (by decide +kernel)) rfl, by decide +kernel, by decide +kernel⟩
theorem wi_X0_size : zMi mX0_size := ⟨zTin (List.mem_of_getElem? (i := 426) (by decide +kernel)) rfl, zTin (List.mem_of_getElem? (i := 427) (by decide +kernel)) rfl⟩
abbrev mX0_sizeOfAll : zM := (yX0_sizeOfAll, cX0_sizeOfAll, 3, (some .int))
theorem wm_X0_sizeOfAll : zMv mX0_sizeOfAll 0 := ⟨zTin (List.mem_of_getElem? (i := 644) (by decide +kernel)) rfl, zTin (List.mem_of_getElem? (i := 54) (by decide +kernel)) rfl, by decide +kernel, by decide +kernel⟩
theorem wi_X0_sizeOfAll : zMi mX0_sizeOfAll := ⟨zTin (List.mem_of_getElem? (i := 642) (by decide +kernel)) rfl, zTin (List.mem_of_getElem? (i := 643) (by decide +kernel)) rfl⟩
abbrev mX0_first : zM := (yX0_first, cX0_first, 2, (some .int))
theorem wm_X0_first : zMv mX0_first 1 := ⟨zTin (List.mem_of_getElem? (i := 446) (by decide +kernel)) rfl, zTin (List.mem_of_getElem? (i := 54) (by decide +kernel)) rfl, by decide +kernel, by decide +kernel⟩
theorem wi_X0_first : zMi mX0_first := ⟨zTin (List.mem_of_getElem? (i := 444) (by decide +kernel)) rfl, zTin (List.mem_of_getElem? (i := 445) (by decide +kernel)) rfl⟩
abbrev mX0_placeOf : zM := (yX0_placeOf, cX0_placeOf, 4, (some .int))
theorem wm_X0_placeOf : zMv mX0_placeOf 2 := ⟨zTin (List.mem_of_getElem? (i := 416) (by decide +kernel)) rfl, zTin (List.mem_of_getElem? (i := 54) (by decide +kernel)) rfl, by decide +kernel, by decide +kernel⟩
theorem wi_X0_placeOf : zMi mX0_placeOf := ⟨zTin (List.mem_of_getElem? (i := 414) (by decide +kernel)) rfl, zTin (List.mem_of_getElem? (i := 415) (by decide +kernel)) rfl⟩
abbrev mX0_append : zM := (yX0_append, cX0_append, 3, none)
theorem wm_X0_append : zMv mX0_append 2 := ⟨zTin (List.mem_of_getElem? (i := 420) (by decide +kernel)) rfl, zTin (List.mem_of_getElem? (i := 54) (by decide +kernel)) rfl, by decide +kernel, by decide +kernel⟩
theorem wi_X0_append : zMi mX0_append := ⟨zTin (List.mem_of_getElem? (i := 418) (by decide +kernel)) rfl, zTin (List.mem_of_getElem? (i := 419) (by decide +kernel)) rfl⟩
abbrev mX0_remove : zM := (yX0_remove, cX0_remove, 5, none)
theorem wm_X0_remove : zMv mX0_remove 2 := ⟨zTin (List.mem_of_getElem? (i := 424) (by decide +kernel)) rfl, zTin (List.mem_of_getElem? (i := 54) (by decide +kernel)) rfl, by decide +kernel, by decide +kernel⟩
theorem wi_X0_remove : zMi mX0_remove := ⟨zTin (List.mem_of_getElem? (i := 422) (by decide +kernel)) rfl, zTin (List.mem_of_getElem? (i := 423) (by decide +kernel)) rfl⟩
abbrev mX1_run : zM := (yX1_run, cX1_run, 5, (some .int))
theorem wm_X1_run : zMv mX1_run 3 := ⟨zTin (List.mem_of_getElem? (i := 367) (by decide +kernel)) rfl, zTin (List.mem_of_getElem? (i := 57) (by decide +kernel)) rfl, by decide +kernel, by decide +kernel⟩
theorem wi_X1_run : zMi mX1_run := ⟨zTin (List.mem_of_getElem? (i := 365) (by decide +kernel)) rfl, zTin (List.mem_of_getElem? (i := 366) (by decide +kernel)) rfl⟩
abbrev mX1_gatherFor : zM := (yX1_gatherFor, cX1_gatherFor, 13, none)
theorem wm_X1_gatherFor : zMv mX1_gatherFor 6 := ⟨zTin (List.mem_of_getElem? (i := 373) (by decide +kernel)) rfl, zTin (List.mem_of_getElem? (i := 57) (by decide +kernel)) rfl, by decide +kernel, by decide +kernel⟩
theorem wt_X1_gatherFor : Cond.static yX1_gatherFor ∈ zT := zTin (List.mem_of_getElem? (i := 372) (by decide +kernel)) rfl
abbrev mX1_needyBorrower : zM := (yX1_needyBorrower, cX1_needyBorrower, 7, (some .int))
theorem wm_X1_needyBorrower : zMv mX1_needyBorrower 3 := ⟨zTin (List.mem_of_getElem? (i := 380) (by decide +kernel)) rfl, zTin (List.mem_of_getElem? (i := 57) (by decide +kernel)) rfl, by decide +kernel, by decide +kernel⟩
theorem wt_X1_needyBorrower : Cond.static yX1_needyBorrower ∈ zT := zTin (List.mem_of_getElem? (i := 379) (by decide +kernel)) rfl
abbrev mX2_size : zM := (yX2_size, cX2_size, 1, (some .int))
theorem wm_X2_size : zMv mX2_size 0 := ⟨zTin (List.mem_of_getElem? (i := 550) (by decide +kernel)) rfl, zTin (List.mem_of_getElem? (i := 56) (by decide +kernel)) rfl, by decide +kernel, by decide +kernel⟩
theorem wi_X2_size : zMi mX2_size := ⟨zTin (List.mem_of_getElem? (i := 548) (by decide +kernel)) rfl, zTin (List.mem_of_getElem? (i := 549) (by decide +kernel)) rfl⟩
abbrev mX2_open : zM := (yX2_open, cX2_open, 2, none)
theorem wm_X2_open : zMv mX2_open 1 := ⟨zTin (List.mem_of_getElem? (i := 261) (by decide +kernel)) rfl, zTin (List.mem_of_getElem? (i := 56) (by decide +kernel)) rfl, by decide +kernel, by decide +kernel⟩
theorem wi_X2_open : zMi mX2_open := ⟨zTin (List.mem_of_getElem? (i := 259) (by decide +kernel)) rfl, zTin (List.mem_of_getElem? (i := 260) (by decide +kernel)) rfl⟩
abbrev mX2_opened : zM := (yX2_opened, cX2_opened, 1, (some (.object "LentParts$State")))
theorem wm_X2_opened : zMv mX2_opened 0 := ⟨zTin (List.mem_of_getElem? (i := 316) (by decide +kernel)) rfl, zTin (List.mem_of_getElem? (i := 56) (by decide +kernel)) rfl, by decide +kernel, by decide +kernel⟩
theorem wi_X2_opened : zMi mX2_opened := ⟨zTin (List.mem_of_getElem? (i := 314) (by decide +kernel)) rfl, zTin (List.mem_of_getElem? (i := 315) (by decide +kernel)) rfl⟩
abbrev mX2_record : zM := (yX2_record, cX2_record, 1, none)
theorem wm_X2_record : zMv mX2_record 0 := ⟨zTin (List.mem_of_getElem? (i := 321) (by decide +kernel)) rfl, zTin (List.mem_of_getElem? (i := 56) (by decide +kernel)) rfl, by decide +kernel, by decide +kernel⟩
theorem wi_X2_record : zMi mX2_record := ⟨zTin (List.mem_of_getElem? (i := 319) (by decide +kernel)) rfl, zTin (List.mem_of_getElem? (i := 320) (by decide +kernel)) rfl⟩
abbrev mX2_takeLatest : zM := (yX2_takeLatest, cX2_takeLatest, 1, (some (.object "LentParts$State")))
theorem wm_X2_takeLatest : zMv mX2_takeLatest 0 := ⟨zTin (List.mem_of_getElem? (i := 546) (by decide +kernel)) rfl, zTin (List.mem_of_getElem? (i := 56) (by decide +kernel)) rfl, by decide +kernel, by decide +kernel⟩
theorem wi_X2_takeLatest : zMi mX2_takeLatest := ⟨zTin (List.mem_of_getElem? (i := 544) (by decide +kernel)) rfl, zTin (List.mem_of_getElem? (i := 545) (by decide +kernel)) rfl⟩
abbrev mX3_copyFrom : zM := (yX3_copyFrom, cX3_copyFrom, 2, none)
theorem wm_X3_copyFrom : zMv mX3_copyFrom 1 := ⟨zTin (List.mem_of_getElem? (i := 277) (by decide +kernel)) rfl, zTin (List.mem_of_getElem? (i := 55) (by decide +kernel)) rfl, by decide +kernel, by decide +kernel⟩
theorem wi_X3_copyFrom : zMi mX3_copyFrom := ⟨zTin (List.mem_of_getElem? (i := 275) (by decide +kernel)) rfl, zTin (List.mem_of_getElem? (i := 276) (by decide +kernel)) rfl⟩
abbrev mX3_hasRoom : zM := (yX3_hasRoom, cX3_hasRoom, 1, (some .boolean))
theorem wm_X3_hasRoom : zMv mX3_hasRoom 0 := ⟨zTin (List.mem_of_getElem? (i := 300) (by decide +kernel)) rfl, zTin (List.mem_of_getElem? (i := 55) (by decide +kernel)) rfl, by decide +kernel, by decide +kernel⟩
theorem wi_X3_hasRoom : zMi mX3_hasRoom := ⟨zTin (List.mem_of_getElem? (i := 298) (by decide +kernel)) rfl, zTin (List.mem_of_getElem? (i := 299) (by decide +kernel)) rfl⟩
abbrev mX3_append : zM := (yX3_append, cX3_append, 5, (some .int))
theorem wm_X3_append : zMv mX3_append 4 := ⟨zTin (List.mem_of_getElem? (i := 308) (by decide +kernel)) rfl, zTin (List.mem_of_getElem? (i := 55) (by decide +kernel)) rfl, by decide +kernel, by decide +kernel⟩
theorem wi_X3_append : zMi mX3_append := ⟨zTin (List.mem_of_getElem? (i := 306) (by decide +kernel)) rfl, zTin (List.mem_of_getElem? (i := 307) (by decide +kernel)) rfl⟩
abbrev mX3_remove : zM := (yX3_remove, cX3_remove, 3, none)
theorem wm_X3_remove : zMv mX3_remove 1 := ⟨zTin (List.mem_of_getElem? (i := 353) (by decide +kernel)) rfl, zTin (List.mem_of_getElem? (i := 55) (by decide +kernel)) rfl, by decide +kernel, by decide +kernel⟩
theorem wi_X3_remove : zMi mX3_remove := ⟨zTin (List.mem_of_getElem? (i := 351) (by decide +kernel)) rfl, zTin (List.mem_of_getElem? (i := 352) (by decide +kernel)) rfl⟩
abbrev mX3_rowOf : zM := (yX3_rowOf, cX3_rowOf, 3, (some .int))
theorem wm_X3_rowOf : zMv mX3_rowOf 1 := ⟨zTin (List.mem_of_getElem? (i := 345) (by decide +kernel)) rfl, zTin (List.mem_of_getElem? (i := 55) (by decide +kernel)) rfl, by decide +kernel, by decide +kernel⟩
theorem wi_X3_rowOf : zMi mX3_rowOf := ⟨zTin (List.mem_of_getElem? (i := 343) (by decide +kernel)) rfl, zTin (List.mem_of_getElem? (i := 344) (by decide +kernel)) rfl⟩
abbrev mX3_latestAhead : zM := (yX3_latestAhead, cX3_latestAhead, 5, (some .int))
theorem wm_X3_latestAhead : zMv mX3_latestAhead 3 := ⟨zTin (List.mem_of_getElem? (i := 377) (by decide +kernel)) rfl, zTin (List.mem_of_getElem? (i := 55) (by decide +kernel)) rfl, by decide +kernel, by decide +kernel⟩
theorem wi_X3_latestAhead : zMi mX3_latestAhead := ⟨zTin (List.mem_of_getElem? (i := 375) (by decide +kernel)) rfl, zTin (List.mem_of_getElem? (i := 376) (by decide +kernel)) rfl⟩
abbrev mX3_countOf : zM := (yX3_countOf, cX3_countOf, 4, (some .int))
theorem wm_X3_countOf : zMv mX3_countOf 1 := ⟨zTin (List.mem_of_getElem? (i := 458) (by decide +kernel)) rfl, zTin (List.mem_of_getElem? (i := 55) (by decide +kernel)) rfl, by decide +kernel, by decide +kernel⟩
theorem wi_X3_countOf : zMi mX3_countOf := ⟨zTin (List.mem_of_getElem? (i := 456) (by decide +kernel)) rfl, zTin (List.mem_of_getElem? (i := 457) (by decide +kernel)) rfl⟩
abbrev mX3_partsLent : zM := (yX3_partsLent, cX3_partsLent, 3, (some .int))
theorem wm_X3_partsLent : zMv mX3_partsLent 2 := ⟨zTin (List.mem_of_getElem? (i := 590) (by decide +kernel)) rfl, zTin (List.mem_of_getElem? (i := 55) (by decide +kernel)) rfl, by decide +kernel, by decide +kernel⟩
theorem wi_X3_partsLent : zMi mX3_partsLent := ⟨zTin (List.mem_of_getElem? (i := 588) (by decide +kernel)) rfl, zTin (List.mem_of_getElem? (i := 589) (by decide +kernel)) rfl⟩
abbrev mX3_partsBorrowed : zM := (yX3_partsBorrowed, cX3_partsBorrowed, 3, (some .int))
theorem wm_X3_partsBorrowed : zMv mX3_partsBorrowed 2 := ⟨zTin (List.mem_of_getElem? (i := 598) (by decide +kernel)) rfl, zTin (List.mem_of_getElem? (i := 55) (by decide +kernel)) rfl, by decide +kernel, by decide +kernel⟩
theorem wi_X3_partsBorrowed : zMi mX3_partsBorrowed := ⟨zTin (List.mem_of_getElem? (i := 596) (by decide +kernel)) rfl, zTin (List.mem_of_getElem? (i := 597) (by decide +kernel)) rfl⟩
abbrev mX3_sumParts : zM := (yX3_sumParts, cX3_sumParts, 6, (some .int))
theorem wm_X3_sumParts : zMv mX3_sumParts 3 := ⟨zTin (List.mem_of_getElem? (i := 594) (by decide +kernel)) rfl, zTin (List.mem_of_getElem? (i := 55) (by decide +kernel)) rfl, by decide +kernel, by decide +kernel⟩
theorem wi_X3_sumParts : zMi mX3_sumParts := ⟨zTin (List.mem_of_getElem? (i := 593) (by decide +kernel)) rfl, zTin (List.mem_of_getElem? (i := 17) (by decide +kernel)) rfl⟩
abbrev mX3_longestChain : zM := (yX3_longestChain, cX3_longestChain, 6, (some .int))
theorem wm_X3_longestChain : zMv mX3_longestChain 1 := ⟨zTin (List.mem_of_getElem? (i := 621) (by decide +kernel)) rfl, zTin (List.mem_of_getElem? (i := 55) (by decide +kernel)) rfl, by decide +kernel, by decide +kernel⟩
theorem wi_X3_longestChain : zMi mX3_longestChain := ⟨zTin (List.mem_of_getElem? (i := 619) (by decide +kernel)) rfl, zTin (List.mem_of_getElem? (i := 620) (by decide +kernel)) rfl⟩
abbrev mX3_linksOf : zM := (yX3_linksOf, cX3_linksOf, 5, (some .long))
theorem wm_X3_linksOf : zMv mX3_linksOf 1 := ⟨zTin (List.mem_of_getElem? (i := 625) (by decide +kernel)) rfl, zTin (List.mem_of_getElem? (i := 55) (by decide +kernel)) rfl, by decide +kernel, by decide +kernel⟩
theorem wi_X3_linksOf : zMi mX3_linksOf := ⟨zTin (List.mem_of_getElem? (i := 624) (by decide +kernel)) rfl, zTin (List.mem_of_getElem? (i := 19) (by decide +kernel)) rfl⟩
abbrev mX3_longestFrom : zM := (yX3_longestFrom, cX3_longestFrom, 9, (some .int))
theorem wm_X3_longestFrom : zMv mX3_longestFrom 4 := ⟨zTin (List.mem_of_getElem? (i := 628) (by decide +kernel)) rfl, zTin (List.mem_of_getElem? (i := 55) (by decide +kernel)) rfl, by decide +kernel, by decide +kernel⟩
theorem wt_X3_longestFrom : Cond.static yX3_longestFrom ∈ zT := zTin (List.mem_of_getElem? (i := 627) (by decide +kernel)) rfl
abbrev mX4_copyFrom : zM := (yX4_copyFrom, cX4_copyFrom, 2, none)
theorem wm_X4_copyFrom : zMv mX4_copyFrom 1 := ⟨zTin (List.mem_of_getElem? (i := 265) (by decide +kernel)) rfl, zTin (List.mem_of_getElem? (i := 53) (by decide +kernel)) rfl, by decide +kernel, by decide +kernel⟩
theorem wi_X4_copyFrom : zMi mX4_copyFrom := ⟨zTin (List.mem_of_getElem? (i := 263) (by decide +kernel)) rfl, zTin (List.mem_of_getElem? (i := 264) (by decide +kernel)) rfl⟩
abbrev mX4_heldBy : zM := (yX4_heldBy, cX4_heldBy, 3, (some .int))
theorem wm_X4_heldBy : zMv mX4_heldBy 2 := ⟨zTin (List.mem_of_getElem? (i := 292) (by decide +kernel)) rfl, zTin (List.mem_of_getElem? (i := 53) (by decide +kernel)) rfl, by decide +kernel, by decide +kernel⟩
theorem wi_X4_heldBy : zMi mX4_heldBy := ⟨zTin (List.mem_of_getElem? (i := 290) (by decide +kernel)) rfl, zTin (List.mem_of_getElem? (i := 291) (by decide +kernel)) rfl⟩
abbrev mX4_isHolding : zM := (yX4_isHolding, cX4_isHolding, 3, (some .boolean))
theorem wm_X4_isHolding : zMv mX4_isHolding 2 := ⟨zTin (List.mem_of_getElem? (i := 296) (by decide +kernel)) rfl, zTin (List.mem_of_getElem? (i := 53) (by decide +kernel)) rfl, by decide +kernel, by decide +kernel⟩
theorem wi_X4_isHolding : zMi mX4_isHolding := ⟨zTin (List.mem_of_getElem? (i := 294) (by decide +kernel)) rfl, zTin (List.mem_of_getElem? (i := 295) (by decide +kernel)) rfl⟩
abbrev mX4_makeLoan : zM := (yX4_makeLoan, cX4_makeLoan, 5, (some .int))
theorem wm_X4_makeLoan : zMv mX4_makeLoan 4 := ⟨zTin (List.mem_of_getElem? (i := 282) (by decide +kernel)) rfl, zTin (List.mem_of_getElem? (i := 53) (by decide +kernel)) rfl, by decide +kernel, by decide +kernel⟩
theorem wi_X4_makeLoan : zMi mX4_makeLoan := ⟨zTin (List.mem_of_getElem? (i := 280) (by decide +kernel)) rfl, zTin (List.mem_of_getElem? (i := 281) (by decide +kernel)) rfl⟩
abbrev mX4_makeHalfLoan : zM := (yX4_makeHalfLoan, cX4_makeHalfLoan, 6, (some .int))
theorem wm_X4_makeHalfLoan : zMv mX4_makeHalfLoan 3 := ⟨zTin (List.mem_of_getElem? (i := 332) (by decide +kernel)) rfl, zTin (List.mem_of_getElem? (i := 53) (by decide +kernel)) rfl, by decide +kernel, by decide +kernel⟩
theorem wi_X4_makeHalfLoan : zMi mX4_makeHalfLoan := ⟨zTin (List.mem_of_getElem? (i := 330) (by decide +kernel)) rfl, zTin (List.mem_of_getElem? (i := 331) (by decide +kernel)) rfl⟩
abbrev mX4_endLoan : zM := (yX4_endLoan, cX4_endLoan, 5, (some .int))
theorem wm_X4_endLoan : zMv mX4_endLoan 1 := ⟨zTin (List.mem_of_getElem? (i := 341) (by decide +kernel)) rfl, zTin (List.mem_of_getElem? (i := 53) (by decide +kernel)) rfl, by decide +kernel, by decide +kernel⟩
theorem wi_X4_endLoan : zMi mX4_endLoan := ⟨zTin (List.mem_of_getElem? (i := 339) (by decide +kernel)) rfl, zTin (List.mem_of_getElem? (i := 340) (by decide +kernel)) rfl⟩
abbrev mX4_canEndLoan : zM := (yX4_canEndLoan, cX4_canEndLoan, 4, (some .boolean))
theorem wm_X4_canEndLoan : zMv mX4_canEndLoan 1 := ⟨zTin (List.mem_of_getElem? (i := 349) (by decide +kernel)) rfl, zTin (List.mem_of_getElem? (i := 53) (by decide +kernel)) rfl, by decide +kernel, by decide +kernel⟩
theorem wi_X4_canEndLoan : zMi mX4_canEndLoan := ⟨zTin (List.mem_of_getElem? (i := 347) (by decide +kernel)) rfl, zTin (List.mem_of_getElem? (i := 348) (by decide +kernel)) rfl⟩
abbrev mX4_moveParts : zM := (yX4_moveParts, cX4_moveParts, 5, none)
theorem wm_X4_moveParts : zMv mX4_moveParts 4 := ⟨zTin (List.mem_of_getElem? (i := 304) (by decide +kernel)) rfl, zTin (List.mem_of_getElem? (i := 53) (by decide +kernel)) rfl, by decide +kernel, by decide +kernel⟩
theorem wi_X4_moveParts : zMi mX4_moveParts := ⟨zTin (List.mem_of_getElem? (i := 303) (by decide +kernel)) rfl, zTin (List.mem_of_getElem? (i := 0) (by decide +kernel)) rfl⟩
abbrev mX4_setHolding : zM := (yX4_setHolding, cX4_setHolding, 4, (some .int))
theorem wm_X4_setHolding : zMv mX4_setHolding 3 := ⟨zTin (List.mem_of_getElem? (i := 392) (by decide +kernel)) rfl, zTin (List.mem_of_getElem? (i := 53) (by decide +kernel)) rfl, by decide +kernel, by decide +kernel⟩
theorem wi_X4_setHolding : zMi mX4_setHolding := ⟨zTin (List.mem_of_getElem? (i := 390) (by decide +kernel)) rfl, zTin (List.mem_of_getElem? (i := 391) (by decide +kernel)) rfl⟩
abbrev mX4_writeValue : zM := (yX4_writeValue, cX4_writeValue, 4, (some .int))
theorem wm_X4_writeValue : zMv mX4_writeValue 3 := ⟨zTin (List.mem_of_getElem? (i := 400) (by decide +kernel)) rfl, zTin (List.mem_of_getElem? (i := 53) (by decide +kernel)) rfl, by decide +kernel, by decide +kernel⟩
theorem wi_X4_writeValue : zMi mX4_writeValue := ⟨zTin (List.mem_of_getElem? (i := 398) (by decide +kernel)) rfl, zTin (List.mem_of_getElem? (i := 399) (by decide +kernel)) rfl⟩
abbrev mX4_setClaim : zM := (yX4_setClaim, cX4_setClaim, 5, (some .int))
theorem wm_X4_setClaim : zMv mX4_setClaim 3 := ⟨zTin (List.mem_of_getElem? (i := 412) (by decide +kernel)) rfl, zTin (List.mem_of_getElem? (i := 53) (by decide +kernel)) rfl, by decide +kernel, by decide +kernel⟩
theorem wi_X4_setClaim : zMi mX4_setClaim := ⟨zTin (List.mem_of_getElem? (i := 410) (by decide +kernel)) rfl, zTin (List.mem_of_getElem? (i := 411) (by decide +kernel)) rfl⟩
abbrev mX4_grantFirstClaim : zM := (yX4_grantFirstClaim, cX4_grantFirstClaim, 4, (some .int))
theorem wm_X4_grantFirstClaim : zMv mX4_grantFirstClaim 1 := ⟨zTin (List.mem_of_getElem? (i := 442) (by decide +kernel)) rfl, zTin (List.mem_of_getElem? (i := 53) (by decide +kernel)) rfl, by decide +kernel, by decide +kernel⟩
theorem wi_X4_grantFirstClaim : zMi mX4_grantFirstClaim := ⟨zTin (List.mem_of_getElem? (i := 440) (by decide +kernel)) rfl, zTin (List.mem_of_getElem? (i := 441) (by decide +kernel)) rfl⟩
abbrev mX4_changeOwner : zM := (yX4_changeOwner, cX4_changeOwner, 4, (some .int))
theorem wm_X4_changeOwner : zMv mX4_changeOwner 2 := ⟨zTin (List.mem_of_getElem? (i := 454) (by decide +kernel)) rfl, zTin (List.mem_of_getElem? (i := 53) (by decide +kernel)) rfl, by decide +kernel, by decide +kernel⟩
theorem wi_X4_changeOwner : zMi mX4_changeOwner := ⟨zTin (List.mem_of_getElem? (i := 452) (by decide +kernel)) rfl, zTin (List.mem_of_getElem? (i := 453) (by decide +kernel)) rfl⟩
abbrev mX4_countReaders : zM := (yX4_countReaders, cX4_countReaders, 4, (some .int))
theorem wm_X4_countReaders : zMv mX4_countReaders 1 := ⟨zTin (List.mem_of_getElem? (i := 566) (by decide +kernel)) rfl, zTin (List.mem_of_getElem? (i := 53) (by decide +kernel)) rfl, by decide +kernel, by decide +kernel⟩
theorem wi_X4_countReaders : zMi mX4_countReaders := ⟨zTin (List.mem_of_getElem? (i := 564) (by decide +kernel)) rfl, zTin (List.mem_of_getElem? (i := 565) (by decide +kernel)) rfl⟩
abbrev mX4_holderOfWhole : zM := (yX4_holderOfWhole, cX4_holderOfWhole, 3, (some .int))
theorem wm_X4_holderOfWhole : zMv mX4_holderOfWhole 1 := ⟨zTin (List.mem_of_getElem? (i := 572) (by decide +kernel)) rfl, zTin (List.mem_of_getElem? (i := 53) (by decide +kernel)) rfl, by decide +kernel, by decide +kernel⟩
theorem wi_X4_holderOfWhole : zMi mX4_holderOfWhole := ⟨zTin (List.mem_of_getElem? (i := 570) (by decide +kernel)) rfl, zTin (List.mem_of_getElem? (i := 571) (by decide +kernel)) rfl⟩
abbrev mX4_countWholeCells : zM := (yX4_countWholeCells, cX4_countWholeCells, 3, (some .int))
theorem wm_X4_countWholeCells : zMv mX4_countWholeCells 0 := ⟨zTin (List.mem_of_getElem? (i := 639) (by decide +kernel)) rfl, zTin (List.mem_of_getElem? (i := 53) (by decide +kernel)) rfl, by decide +kernel, by decide +kernel⟩
theorem wi_X4_countWholeCells : zMi mX4_countWholeCells := ⟨zTin (List.mem_of_getElem? (i := 637) (by decide +kernel)) rfl, zTin (List.mem_of_getElem? (i := 638) (by decide +kernel)) rfl⟩
abbrev mX4_countHolding : zM := (yX4_countHolding, cX4_countHolding, 2, (some .int))
theorem wm_X4_countHolding : zMv mX4_countHolding 1 := ⟨zTin (List.mem_of_getElem? (i := 576) (by decide +kernel)) rfl, zTin (List.mem_of_getElem? (i := 53) (by decide +kernel)) rfl, by decide +kernel, by decide +kernel⟩
theorem wi_X4_countHolding : zMi mX4_countHolding := ⟨zTin (List.mem_of_getElem? (i := 574) (by decide +kernel)) rfl, zTin (List.mem_of_getElem? (i := 575) (by decide +kernel)) rfl⟩
abbrev mX4_countAllHolding : zM := (yX4_countAllHolding, cX4_countAllHolding, 3, (some .int))
theorem wm_X4_countAllHolding : zMv mX4_countAllHolding 0 := ⟨zTin (List.mem_of_getElem? (i := 648) (by decide +kernel)) rfl, zTin (List.mem_of_getElem? (i := 53) (by decide +kernel)) rfl, by decide +kernel, by decide +kernel⟩
theorem wi_X4_countAllHolding : zMi mX4_countAllHolding := ⟨zTin (List.mem_of_getElem? (i := 646) (by decide +kernel)) rfl, zTin (List.mem_of_getElem? (i := 647) (by decide +kernel)) rfl⟩
abbrev mX5_size : zM := (yX5_size, cX5_size, 1, (some .int))
theorem wm_X5_size : zMv mX5_size 0 := ⟨zTin (List.mem_of_getElem? (i := 653) (by decide +kernel)) rfl, zTin (List.mem_of_getElem? (i := 58) (by decide +kernel)) rfl, by decide +kernel, by decide +kernel⟩
theorem wi_X5_size : zMi mX5_size := ⟨zTin (List.mem_of_getElem? (i := 651) (by decide +kernel)) rfl, zTin (List.mem_of_getElem? (i := 652) (by decide +kernel)) rfl⟩
abbrev mX5_append : zM := (yX5_append, cX5_append, 2, (some .int))
theorem wm_X5_append : zMv mX5_append 1 := ⟨zTin (List.mem_of_getElem? (i := 466) (by decide +kernel)) rfl, zTin (List.mem_of_getElem? (i := 58) (by decide +kernel)) rfl, by decide +kernel, by decide +kernel⟩
theorem wi_X5_append : zMi mX5_append := ⟨zTin (List.mem_of_getElem? (i := 464) (by decide +kernel)) rfl, zTin (List.mem_of_getElem? (i := 465) (by decide +kernel)) rfl⟩
abbrev mX5_empty : zM := (yX5_empty, cX5_empty, 2, (some .int))
theorem wm_X5_empty : zMv mX5_empty 0 := ⟨zTin (List.mem_of_getElem? (i := 474) (by decide +kernel)) rfl, zTin (List.mem_of_getElem? (i := 58) (by decide +kernel)) rfl, by decide +kernel, by decide +kernel⟩
theorem wi_X5_empty : zMi mX5_empty := ⟨zTin (List.mem_of_getElem? (i := 472) (by decide +kernel)) rfl, zTin (List.mem_of_getElem? (i := 473) (by decide +kernel)) rfl⟩
abbrev mX5_findFault : zM := (yX5_findFault, cX5_findFault, 3, (some .int))
theorem wm_X5_findFault : zMv mX5_findFault 0 := ⟨zTin (List.mem_of_getElem? (i := 482) (by decide +kernel)) rfl, zTin (List.mem_of_getElem? (i := 58) (by decide +kernel)) rfl, by decide +kernel, by decide +kernel⟩
theorem wi_X5_findFault : zMi mX5_findFault := ⟨zTin (List.mem_of_getElem? (i := 480) (by decide +kernel)) rfl, zTin (List.mem_of_getElem? (i := 481) (by decide +kernel)) rfl⟩
abbrev mX5_readAct : zM := (yX5_readAct, cX5_readAct, 2, (some .boolean))
theorem wm_X5_readAct : zMv mX5_readAct 0 := ⟨zTin (List.mem_of_getElem? (i := 486) (by decide +kernel)) rfl, zTin (List.mem_of_getElem? (i := 58) (by decide +kernel)) rfl, by decide +kernel, by decide +kernel⟩
theorem wi_X5_readAct : zMi mX5_readAct := ⟨zTin (List.mem_of_getElem? (i := 485) (by decide +kernel)) rfl, zTin (List.mem_of_getElem? (i := 4) (by decide +kernel)) rfl⟩
abbrev mX5_readLoan : zM := (yX5_readLoan, cX5_readLoan, 2, (some .boolean))
theorem wm_X5_readLoan : zMv mX5_readLoan 1 := ⟨zTin (List.mem_of_getElem? (i := 494) (by decide +kernel)) rfl, zTin (List.mem_of_getElem? (i := 58) (by decide +kernel)) rfl, by decide +kernel, by decide +kernel⟩
theorem wi_X5_readLoan : zMi mX5_readLoan := ⟨zTin (List.mem_of_getElem? (i := 493) (by decide +kernel)) rfl, zTin (List.mem_of_getElem? (i := 6) (by decide +kernel)) rfl⟩
abbrev mX5_readReturn : zM := (yX5_readReturn, cX5_readReturn, 2, (some .boolean))
theorem wm_X5_readReturn : zMv mX5_readReturn 1 := ⟨zTin (List.mem_of_getElem? (i := 518) (by decide +kernel)) rfl, zTin (List.mem_of_getElem? (i := 58) (by decide +kernel)) rfl, by decide +kernel, by decide +kernel⟩
theorem wi_X5_readReturn : zMi mX5_readReturn := ⟨zTin (List.mem_of_getElem? (i := 517) (by decide +kernel)) rfl, zTin (List.mem_of_getElem? (i := 12) (by decide +kernel)) rfl⟩
abbrev mX5_readWrite : zM := (yX5_readWrite, cX5_readWrite, 2, (some .boolean))
theorem wm_X5_readWrite : zMv mX5_readWrite 1 := ⟨zTin (List.mem_of_getElem? (i := 522) (by decide +kernel)) rfl, zTin (List.mem_of_getElem? (i := 58) (by decide +kernel)) rfl, by decide +kernel, by decide +kernel⟩
theorem wi_X5_readWrite : zMi mX5_readWrite := ⟨zTin (List.mem_of_getElem? (i := 521) (by decide +kernel)) rfl, zTin (List.mem_of_getElem? (i := 13) (by decide +kernel)) rfl⟩
abbrev mX5_readGathering : zM := (yX5_readGathering, cX5_readGathering, 2, (some .boolean))
theorem wm_X5_readGathering : zMv mX5_readGathering 1 := ⟨zTin (List.mem_of_getElem? (i := 526) (by decide +kernel)) rfl, zTin (List.mem_of_getElem? (i := 58) (by decide +kernel)) rfl, by decide +kernel, by decide +kernel⟩
theorem wi_X5_readGathering : zMi mX5_readGathering := ⟨zTin (List.mem_of_getElem? (i := 525) (by decide +kernel)) rfl, zTin (List.mem_of_getElem? (i := 14) (by decide +kernel)) rfl⟩
abbrev mX5_readPair : zM := (yX5_readPair, cX5_readPair, 2, (some .boolean))
theorem wm_X5_readPair : zMv mX5_readPair 1 := ⟨zTin (List.mem_of_getElem? (i := 510) (by decide +kernel)) rfl, zTin (List.mem_of_getElem? (i := 58) (by decide +kernel)) rfl, by decide +kernel, by decide +kernel⟩
theorem wi_X5_readPair : zMi mX5_readPair := ⟨zTin (List.mem_of_getElem? (i := 509) (by decide +kernel)) rfl, zTin (List.mem_of_getElem? (i := 10) (by decide +kernel)) rfl⟩
abbrev mX5_signHere : zM := (yX5_signHere, cX5_signHere, 1, (some .int))
theorem wm_X5_signHere : zMv mX5_signHere 0 := ⟨zTin (List.mem_of_getElem? (i := 490) (by decide +kernel)) rfl, zTin (List.mem_of_getElem? (i := 58) (by decide +kernel)) rfl, by decide +kernel, by decide +kernel⟩
theorem wi_X5_signHere : zMi mX5_signHere := ⟨zTin (List.mem_of_getElem? (i := 489) (by decide +kernel)) rfl, zTin (List.mem_of_getElem? (i := 5) (by decide +kernel)) rfl⟩
abbrev mX5_digitHere : zM := (yX5_digitHere, cX5_digitHere, 2, (some .int))
theorem wm_X5_digitHere : zMv mX5_digitHere 0 := ⟨zTin (List.mem_of_getElem? (i := 506) (by decide +kernel)) rfl, zTin (List.mem_of_getElem? (i := 58) (by decide +kernel)) rfl, by decide +kernel, by decide +kernel⟩
theorem wi_X5_digitHere : zMi mX5_digitHere := ⟨zTin (List.mem_of_getElem? (i := 505) (by decide +kernel)) rfl, zTin (List.mem_of_getElem? (i := 9) (by decide +kernel)) rfl⟩
abbrev mX5_readSign : zM := (yX5_readSign, cX5_readSign, 2, (some .boolean))
theorem wm_X5_readSign : zMv mX5_readSign 1 := ⟨zTin (List.mem_of_getElem? (i := 498) (by decide +kernel)) rfl, zTin (List.mem_of_getElem? (i := 58) (by decide +kernel)) rfl, by decide +kernel, by decide +kernel⟩
theorem wi_X5_readSign : zMi mX5_readSign := ⟨zTin (List.mem_of_getElem? (i := 497) (by decide +kernel)) rfl, zTin (List.mem_of_getElem? (i := 7) (by decide +kernel)) rfl⟩
abbrev mX5_readDigit : zM := (yX5_readDigit, cX5_readDigit, 4, (some .boolean))
theorem wm_X5_readDigit : zMv mX5_readDigit 2 := ⟨zTin (List.mem_of_getElem? (i := 502) (by decide +kernel)) rfl, zTin (List.mem_of_getElem? (i := 58) (by decide +kernel)) rfl, by decide +kernel, by decide +kernel⟩
theorem wi_X5_readDigit : zMi mX5_readDigit := ⟨zTin (List.mem_of_getElem? (i := 501) (by decide +kernel)) rfl, zTin (List.mem_of_getElem? (i := 8) (by decide +kernel)) rfl⟩
abbrev mX5_readNumber : zM := (yX5_readNumber, cX5_readNumber, 7, (some .boolean))
theorem wm_X5_readNumber : zMv mX5_readNumber 3 := ⟨zTin (List.mem_of_getElem? (i := 514) (by decide +kernel)) rfl, zTin (List.mem_of_getElem? (i := 58) (by decide +kernel)) rfl, by decide +kernel, by decide +kernel⟩
theorem wi_X5_readNumber : zMi mX5_readNumber := ⟨zTin (List.mem_of_getElem? (i := 513) (by decide +kernel)) rfl, zTin (List.mem_of_getElem? (i := 11) (by decide +kernel)) rfl⟩
abbrev mX6_lend : zM := (yX6_lend, cX6_lend, 5, (some .int))
theorem wm_X6_lend : zMv mX6_lend 4 := ⟨zTin (List.mem_of_getElem? (i := 257) (by decide +kernel)) rfl, zTin (List.mem_of_getElem? (i := 52) (by decide +kernel)) rfl, by decide +kernel, by decide +kernel⟩
theorem wi_X6_lend : zMi mX6_lend := ⟨zTin (List.mem_of_getElem? (i := 255) (by decide +kernel)) rfl, zTin (List.mem_of_getElem? (i := 256) (by decide +kernel)) rfl⟩
abbrev mX6_half : zM := (yX6_half, cX6_half, 4, (some .int))
theorem wm_X6_half : zMv mX6_half 3 := ⟨zTin (List.mem_of_getElem? (i := 328) (by decide +kernel)) rfl, zTin (List.mem_of_getElem? (i := 52) (by decide +kernel)) rfl, by decide +kernel, by decide +kernel⟩
theorem wi_X6_half : zMi mX6_half := ⟨zTin (List.mem_of_getElem? (i := 326) (by decide +kernel)) rfl, zTin (List.mem_of_getElem? (i := 327) (by decide +kernel)) rfl⟩
abbrev mX6_giveBack : zM := (yX6_giveBack, cX6_giveBack, 2, (some .int))
theorem wm_X6_giveBack : zMv mX6_giveBack 1 := ⟨zTin (List.mem_of_getElem? (i := 337) (by decide +kernel)) rfl, zTin (List.mem_of_getElem? (i := 52) (by decide +kernel)) rfl, by decide +kernel, by decide +kernel⟩
theorem wi_X6_giveBack : zMi mX6_giveBack := ⟨zTin (List.mem_of_getElem? (i := 335) (by decide +kernel)) rfl, zTin (List.mem_of_getElem? (i := 336) (by decide +kernel)) rfl⟩
abbrev mX6_gather : zM := (yX6_gather, cX6_gather, 3, (some .int))
theorem wm_X6_gather : zMv mX6_gather 2 := ⟨zTin (List.mem_of_getElem? (i := 357) (by decide +kernel)) rfl, zTin (List.mem_of_getElem? (i := 52) (by decide +kernel)) rfl, by decide +kernel, by decide +kernel⟩
theorem wi_X6_gather : zMi mX6_gather := ⟨zTin (List.mem_of_getElem? (i := 355) (by decide +kernel)) rfl, zTin (List.mem_of_getElem? (i := 356) (by decide +kernel)) rfl⟩
abbrev mX6_hold : zM := (yX6_hold, cX6_hold, 4, (some .int))
theorem wm_X6_hold : zMv mX6_hold 3 := ⟨zTin (List.mem_of_getElem? (i := 388) (by decide +kernel)) rfl, zTin (List.mem_of_getElem? (i := 52) (by decide +kernel)) rfl, by decide +kernel, by decide +kernel⟩
theorem wi_X6_hold : zMi mX6_hold := ⟨zTin (List.mem_of_getElem? (i := 386) (by decide +kernel)) rfl, zTin (List.mem_of_getElem? (i := 387) (by decide +kernel)) rfl⟩
abbrev mX6_write : zM := (yX6_write, cX6_write, 4, (some .int))
theorem wm_X6_write : zMv mX6_write 3 := ⟨zTin (List.mem_of_getElem? (i := 396) (by decide +kernel)) rfl, zTin (List.mem_of_getElem? (i := 52) (by decide +kernel)) rfl, by decide +kernel, by decide +kernel⟩
theorem wi_X6_write : zMi mX6_write := ⟨zTin (List.mem_of_getElem? (i := 394) (by decide +kernel)) rfl, zTin (List.mem_of_getElem? (i := 395) (by decide +kernel)) rfl⟩
abbrev mX6_read : zM := (yX6_read, cX6_read, 3, (some .int))
theorem wm_X6_read : zMv mX6_read 2 := ⟨zTin (List.mem_of_getElem? (i := 404) (by decide +kernel)) rfl, zTin (List.mem_of_getElem? (i := 52) (by decide +kernel)) rfl, by decide +kernel, by decide +kernel⟩
theorem wi_X6_read : zMi mX6_read := ⟨zTin (List.mem_of_getElem? (i := 402) (by decide +kernel)) rfl, zTin (List.mem_of_getElem? (i := 403) (by decide +kernel)) rfl⟩
abbrev mX6_claim : zM := (yX6_claim, cX6_claim, 4, (some .int))
theorem wm_X6_claim : zMv mX6_claim 3 := ⟨zTin (List.mem_of_getElem? (i := 408) (by decide +kernel)) rfl, zTin (List.mem_of_getElem? (i := 52) (by decide +kernel)) rfl, by decide +kernel, by decide +kernel⟩
theorem wi_X6_claim : zMi mX6_claim := ⟨zTin (List.mem_of_getElem? (i := 406) (by decide +kernel)) rfl, zTin (List.mem_of_getElem? (i := 407) (by decide +kernel)) rfl⟩
abbrev mX6_serve : zM := (yX6_serve, cX6_serve, 2, (some .int))
theorem wm_X6_serve : zMv mX6_serve 1 := ⟨zTin (List.mem_of_getElem? (i := 432) (by decide +kernel)) rfl, zTin (List.mem_of_getElem? (i := 52) (by decide +kernel)) rfl, by decide +kernel, by decide +kernel⟩
theorem wi_X6_serve : zMi mX6_serve := ⟨zTin (List.mem_of_getElem? (i := 430) (by decide +kernel)) rfl, zTin (List.mem_of_getElem? (i := 431) (by decide +kernel)) rfl⟩
abbrev mX6_handOver : zM := (yX6_handOver, cX6_handOver, 3, (some .int))
theorem wm_X6_handOver : zMv mX6_handOver 2 := ⟨zTin (List.mem_of_getElem? (i := 450) (by decide +kernel)) rfl, zTin (List.mem_of_getElem? (i := 52) (by decide +kernel)) rfl, by decide +kernel, by decide +kernel⟩
theorem wi_X6_handOver : zMi mX6_handOver := ⟨zTin (List.mem_of_getElem? (i := 448) (by decide +kernel)) rfl, zTin (List.mem_of_getElem? (i := 449) (by decide +kernel)) rfl⟩
abbrev mX6_type : zM := (yX6_type, cX6_type, 2, (some .int))
theorem wm_X6_type : zMv mX6_type 1 := ⟨zTin (List.mem_of_getElem? (i := 462) (by decide +kernel)) rfl, zTin (List.mem_of_getElem? (i := 52) (by decide +kernel)) rfl, by decide +kernel, by decide +kernel⟩
theorem wi_X6_type : zMi mX6_type := ⟨zTin (List.mem_of_getElem? (i := 460) (by decide +kernel)) rfl, zTin (List.mem_of_getElem? (i := 461) (by decide +kernel)) rfl⟩
abbrev mX6_clearText : zM := (yX6_clearText, cX6_clearText, 1, (some .int))
theorem wm_X6_clearText : zMv mX6_clearText 0 := ⟨zTin (List.mem_of_getElem? (i := 470) (by decide +kernel)) rfl, zTin (List.mem_of_getElem? (i := 52) (by decide +kernel)) rfl, by decide +kernel, by decide +kernel⟩
theorem wi_X6_clearText : zMi mX6_clearText := ⟨zTin (List.mem_of_getElem? (i := 468) (by decide +kernel)) rfl, zTin (List.mem_of_getElem? (i := 469) (by decide +kernel)) rfl⟩
abbrev mX6_perform : zM := (yX6_perform, cX6_perform, 4, (some .int))
theorem wm_X6_perform : zMv mX6_perform 0 := ⟨zTin (List.mem_of_getElem? (i := 478) (by decide +kernel)) rfl, zTin (List.mem_of_getElem? (i := 52) (by decide +kernel)) rfl, by decide +kernel, by decide +kernel⟩
theorem wi_X6_perform : zMi mX6_perform := ⟨zTin (List.mem_of_getElem? (i := 476) (by decide +kernel)) rfl, zTin (List.mem_of_getElem? (i := 477) (by decide +kernel)) rfl⟩
abbrev mX6_stop : zM := (yX6_stop, cX6_stop, 2, (some .int))
theorem wm_X6_stop : zMv mX6_stop 1 := ⟨zTin (List.mem_of_getElem? (i := 538) (by decide +kernel)) rfl, zTin (List.mem_of_getElem? (i := 52) (by decide +kernel)) rfl, by decide +kernel, by decide +kernel⟩
theorem wi_X6_stop : zMi mX6_stop := ⟨zTin (List.mem_of_getElem? (i := 536) (by decide +kernel)) rfl, zTin (List.mem_of_getElem? (i := 537) (by decide +kernel)) rfl⟩
abbrev mX6_undo : zM := (yX6_undo, cX6_undo, 2, (some .int))
theorem wm_X6_undo : zMv mX6_undo 0 := ⟨zTin (List.mem_of_getElem? (i := 542) (by decide +kernel)) rfl, zTin (List.mem_of_getElem? (i := 52) (by decide +kernel)) rfl, by decide +kernel, by decide +kernel⟩
theorem wi_X6_undo : zMi mX6_undo := ⟨zTin (List.mem_of_getElem? (i := 540) (by decide +kernel)) rfl, zTin (List.mem_of_getElem? (i := 541) (by decide +kernel)) rfl⟩
abbrev mX6_keep : zM := (yX6_keep, cX6_keep, 1, (some .int))
theorem wm_X6_keep : zMv mX6_keep 0 := ⟨zTin (List.mem_of_getElem? (i := 554) (by decide +kernel)) rfl, zTin (List.mem_of_getElem? (i := 52) (by decide +kernel)) rfl, by decide +kernel, by decide +kernel⟩
theorem wi_X6_keep : zMi mX6_keep := ⟨zTin (List.mem_of_getElem? (i := 552) (by decide +kernel)) rfl, zTin (List.mem_of_getElem? (i := 553) (by decide +kernel)) rfl⟩
abbrev mX6_restore : zM := (yX6_restore, cX6_restore, 1, (some .int))
theorem wm_X6_restore : zMv mX6_restore 0 := ⟨zTin (List.mem_of_getElem? (i := 558) (by decide +kernel)) rfl, zTin (List.mem_of_getElem? (i := 52) (by decide +kernel)) rfl, by decide +kernel, by decide +kernel⟩
theorem wi_X6_restore : zMi mX6_restore := ⟨zTin (List.mem_of_getElem? (i := 556) (by decide +kernel)) rfl, zTin (List.mem_of_getElem? (i := 557) (by decide +kernel)) rfl⟩
abbrev mX6_cell : zM := (yX6_cell, cX6_cell, 3, (some .int))
theorem wm_X6_cell : zMv mX6_cell 2 := ⟨zTin (List.mem_of_getElem? (i := 562) (by decide +kernel)) rfl, zTin (List.mem_of_getElem? (i := 52) (by decide +kernel)) rfl, by decide +kernel, by decide +kernel⟩
theorem wi_X6_cell : zMi mX6_cell := ⟨zTin (List.mem_of_getElem? (i := 560) (by decide +kernel)) rfl, zTin (List.mem_of_getElem? (i := 561) (by decide +kernel)) rfl⟩
abbrev mX6_part : zM := (yX6_part, cX6_part, 4, (some .int))
theorem wm_X6_part : zMv mX6_part 3 := ⟨zTin (List.mem_of_getElem? (i := 586) (by decide +kernel)) rfl, zTin (List.mem_of_getElem? (i := 52) (by decide +kernel)) rfl, by decide +kernel, by decide +kernel⟩
theorem wi_X6_part : zMi mX6_part := ⟨zTin (List.mem_of_getElem? (i := 584) (by decide +kernel)) rfl, zTin (List.mem_of_getElem? (i := 585) (by decide +kernel)) rfl⟩
abbrev mX6_loan : zM := (yX6_loan, cX6_loan, 4, (some .int))
theorem wm_X6_loan : zMv mX6_loan 2 := ⟨zTin (List.mem_of_getElem? (i := 607) (by decide +kernel)) rfl, zTin (List.mem_of_getElem? (i := 52) (by decide +kernel)) rfl, by decide +kernel, by decide +kernel⟩
theorem wi_X6_loan : zMi mX6_loan := ⟨zTin (List.mem_of_getElem? (i := 605) (by decide +kernel)) rfl, zTin (List.mem_of_getElem? (i := 606) (by decide +kernel)) rfl⟩
abbrev mX6_reason : zM := (yX6_reason, cX6_reason, 3, (some .int))
theorem wm_X6_reason : zMv mX6_reason 2 := ⟨zTin (List.mem_of_getElem? (i := 613) (by decide +kernel)) rfl, zTin (List.mem_of_getElem? (i := 52) (by decide +kernel)) rfl, by decide +kernel, by decide +kernel⟩
theorem wi_X6_reason : zMi mX6_reason := ⟨zTin (List.mem_of_getElem? (i := 611) (by decide +kernel)) rfl, zTin (List.mem_of_getElem? (i := 612) (by decide +kernel)) rfl⟩
abbrev mX6_chain : zM := (yX6_chain, cX6_chain, 2, (some .int))
theorem wm_X6_chain : zMv mX6_chain 1 := ⟨zTin (List.mem_of_getElem? (i := 617) (by decide +kernel)) rfl, zTin (List.mem_of_getElem? (i := 52) (by decide +kernel)) rfl, by decide +kernel, by decide +kernel⟩
theorem wi_X6_chain : zMi mX6_chain := ⟨zTin (List.mem_of_getElem? (i := 615) (by decide +kernel)) rfl, zTin (List.mem_of_getElem? (i := 616) (by decide +kernel)) rfl⟩
abbrev mX6_count : zM := (yX6_count, cX6_count, 2, (some .int))
theorem wm_X6_count : zMv mX6_count 1 := ⟨zTin (List.mem_of_getElem? (i := 635) (by decide +kernel)) rfl, zTin (List.mem_of_getElem? (i := 52) (by decide +kernel)) rfl, by decide +kernel, by decide +kernel⟩
theorem wi_X6_count : zMi mX6_count := ⟨zTin (List.mem_of_getElem? (i := 633) (by decide +kernel)) rfl, zTin (List.mem_of_getElem? (i := 634) (by decide +kernel)) rfl⟩
abbrev mX6_close : zM := (yX6_close, cX6_close, 2, (some .int))
theorem wm_X6_close : zMv mX6_close 1 := ⟨zTin (List.mem_of_getElem? (i := 312) (by decide +kernel)) rfl, zTin (List.mem_of_getElem? (i := 52) (by decide +kernel)) rfl, by decide +kernel, by decide +kernel⟩
theorem wi_X6_close : zMi mX6_close := ⟨zTin (List.mem_of_getElem? (i := 311) (by decide +kernel)) rfl, zTin (List.mem_of_getElem? (i := 1) (by decide +kernel)) rfl⟩
abbrev mX6_gatherCell : zM := (yX6_gatherCell, cX6_gatherCell, 4, (some .int))
theorem wm_X6_gatherCell : zMv mX6_gatherCell 2 := ⟨zTin (List.mem_of_getElem? (i := 361) (by decide +kernel)) rfl, zTin (List.mem_of_getElem? (i := 52) (by decide +kernel)) rfl, by decide +kernel, by decide +kernel⟩
theorem wi_X6_gatherCell : zMi mX6_gatherCell := ⟨zTin (List.mem_of_getElem? (i := 360) (by decide +kernel)) rfl, zTin (List.mem_of_getElem? (i := 2) (by decide +kernel)) rfl⟩
abbrev mX6_heldAfterGathering : zM := (yX6_heldAfterGathering, cX6_heldAfterGathering, 3, (some .int))
theorem wm_X6_heldAfterGathering : zMv mX6_heldAfterGathering 2 := ⟨zTin (List.mem_of_getElem? (i := 603) (by decide +kernel)) rfl, zTin (List.mem_of_getElem? (i := 52) (by decide +kernel)) rfl, by decide +kernel, by decide +kernel⟩
theorem wi_X6_heldAfterGathering : zMi mX6_heldAfterGathering := ⟨zTin (List.mem_of_getElem? (i := 602) (by decide +kernel)) rfl, zTin (List.mem_of_getElem? (i := 18) (by decide +kernel)) rfl⟩
abbrev mX6_serveClaims : zM := (yX6_serveClaims, cX6_serveClaims, 4, (some .int))
theorem wm_X6_serveClaims : zMv mX6_serveClaims 1 := ⟨zTin (List.mem_of_getElem? (i := 436) (by decide +kernel)) rfl, zTin (List.mem_of_getElem? (i := 52) (by decide +kernel)) rfl, by decide +kernel, by decide +kernel⟩
theorem wi_X6_serveClaims : zMi mX6_serveClaims := ⟨zTin (List.mem_of_getElem? (i := 435) (by decide +kernel)) rfl, zTin (List.mem_of_getElem? (i := 3) (by decide +kernel)) rfl⟩
abbrev mX6_noteStop : zM := (yX6_noteStop, cX6_noteStop, 3, none)
theorem wm_X6_noteStop : zMv mX6_noteStop 2 := ⟨zTin (List.mem_of_getElem? (i := 534) (by decide +kernel)) rfl, zTin (List.mem_of_getElem? (i := 52) (by decide +kernel)) rfl, by decide +kernel, by decide +kernel⟩
theorem wi_X6_noteStop : zMi mX6_noteStop := ⟨zTin (List.mem_of_getElem? (i := 533) (by decide +kernel)) rfl, zTin (List.mem_of_getElem? (i := 16) (by decide +kernel)) rfl⟩
abbrev mX6_performAct : zM := (yX6_performAct, cX6_performAct, 3, (some .int))
theorem wm_X6_performAct : zMv mX6_performAct 1 := ⟨zTin (List.mem_of_getElem? (i := 530) (by decide +kernel)) rfl, zTin (List.mem_of_getElem? (i := 52) (by decide +kernel)) rfl, by decide +kernel, by decide +kernel⟩
theorem wi_X6_performAct : zMi mX6_performAct := ⟨zTin (List.mem_of_getElem? (i := 529) (by decide +kernel)) rfl, zTin (List.mem_of_getElem? (i := 15) (by decide +kernel)) rfl⟩
abbrev mX6_isAgent : zM := (yX6_isAgent, cX6_isAgent, 1, (some .boolean))
theorem wm_X6_isAgent : zMv mX6_isAgent 1 := ⟨zTin (List.mem_of_getElem? (i := 285) (by decide +kernel)) rfl, zTin (List.mem_of_getElem? (i := 52) (by decide +kernel)) rfl, by decide +kernel, by decide +kernel⟩
theorem wt_X6_isAgent : Cond.static yX6_isAgent ∈ zT := zTin (List.mem_of_getElem? (i := 284) (by decide +kernel)) rfl
abbrev mX6_isCell : zM := (yX6_isCell, cX6_isCell, 1, (some .boolean))
theorem wm_X6_isCell : zMv mX6_isCell 1 := ⟨zTin (List.mem_of_getElem? (i := 288) (by decide +kernel)) rfl, zTin (List.mem_of_getElem? (i := 52) (by decide +kernel)) rfl, by decide +kernel, by decide +kernel⟩
theorem wt_X6_isCell : Cond.static yX6_isCell ∈ zT := zTin (List.mem_of_getElem? (i := 287) (by decide +kernel)) rfl
abbrev mX7_in : zM := (yX7_in, cX7_in, 3, (some .boolean))
theorem wm_X7_in : zMv mX7_in 3 := ⟨zTin (List.mem_of_getElem? (i := 738) (by decide +kernel)) rfl, zTin (List.mem_of_getElem? (i := 59) (by decide +kernel)) rfl, by decide +kernel, by decide +kernel⟩
theorem wt_X7_in : Cond.static yX7_in ∈ zT := zTin (List.mem_of_getElem? (i := 737) (by decide +kernel)) rfl
abbrev mX7_held : zM := (yX7_held, cX7_held, 2, (some .int))
theorem wm_X7_held : zMv mX7_held 2 := ⟨zTin (List.mem_of_getElem? (i := 662) (by decide +kernel)) rfl, zTin (List.mem_of_getElem? (i := 59) (by decide +kernel)) rfl, by decide +kernel, by decide +kernel⟩
theorem wt_X7_held : Cond.static yX7_held ∈ zT := zTin (List.mem_of_getElem? (i := 661) (by decide +kernel)) rfl
abbrev mX7_holds : zM := (yX7_holds, cX7_holds, 2, (some .int))
theorem wm_X7_holds : zMv mX7_holds 2 := ⟨zTin (List.mem_of_getElem? (i := 744) (by decide +kernel)) rfl, zTin (List.mem_of_getElem? (i := 59) (by decide +kernel)) rfl, by decide +kernel, by decide +kernel⟩
theorem wt_X7_holds : Cond.static yX7_holds ∈ zT := zTin (List.mem_of_getElem? (i := 743) (by decide +kernel)) rfl
abbrev mX7_of : zM := (yX7_of, cX7_of, 2, (some .int))
theorem wm_X7_of : zMv mX7_of 2 := ⟨zTin (List.mem_of_getElem? (i := 759) (by decide +kernel)) rfl, zTin (List.mem_of_getElem? (i := 59) (by decide +kernel)) rfl, by decide +kernel, by decide +kernel⟩
theorem wt_X7_of : Cond.static yX7_of ∈ zT := zTin (List.mem_of_getElem? (i := 758) (by decide +kernel)) rfl
abbrev mX7_isAgent : zM := (yX7_isAgent, cX7_isAgent, 1, (some .boolean))
theorem wm_X7_isAgent : zMv mX7_isAgent 1 := ⟨zTin (List.mem_of_getElem? (i := 735) (by decide +kernel)) rfl, zTin (List.mem_of_getElem? (i := 59) (by decide +kernel)) rfl, by decide +kernel, by decide +kernel⟩
theorem wt_X7_isAgent : Cond.static yX7_isAgent ∈ zT := zTin (List.mem_of_getElem? (i := 734) (by decide +kernel)) rfl
abbrev mX7_isCell : zM := (yX7_isCell, cX7_isCell, 1, (some .boolean))
theorem wm_X7_isCell : zMv mX7_isCell 1 := ⟨zTin (List.mem_of_getElem? (i := 741) (by decide +kernel)) rfl, zTin (List.mem_of_getElem? (i := 59) (by decide +kernel)) rfl, by decide +kernel, by decide +kernel⟩
theorem wt_X7_isCell : Cond.static yX7_isCell ∈ zT := zTin (List.mem_of_getElem? (i := 740) (by decide +kernel)) rfl
abbrev mX7_areBoth : zM := (yX7_areBoth, cX7_areBoth, 2, (some .boolean))
theorem wm_X7_areBoth : zMv mX7_areBoth 2 := ⟨zTin (List.mem_of_getElem? (i := 790) (by decide +kernel)) rfl, zTin (List.mem_of_getElem? (i := 59) (by decide +kernel)) rfl, by decide +kernel, by decide +kernel⟩
theorem wt_X7_areBoth : Cond.static yX7_areBoth ∈ zT := zTin (List.mem_of_getElem? (i := 789) (by decide +kernel)) rfl
abbrev mX7_know : zM := (yX7_know, cX7_know, 2, none)
theorem wm_X7_know : zMv mX7_know 0 := ⟨zTin (List.mem_of_getElem? (i := 752) (by decide +kernel)) rfl, zTin (List.mem_of_getElem? (i := 59) (by decide +kernel)) rfl, by decide +kernel, by decide +kernel⟩
theorem wi_X7_know : zMi mX7_know := ⟨zTin (List.mem_of_getElem? (i := 751) (by decide +kernel)) rfl, zTin (List.mem_of_getElem? (i := 22) (by decide +kernel)) rfl⟩
abbrev mX7_putAside : zM := (yX7_putAside, cX7_putAside, 2, none)
theorem wm_X7_putAside : zMv mX7_putAside 0 := ⟨zTin (List.mem_of_getElem? (i := 794) (by decide +kernel)) rfl, zTin (List.mem_of_getElem? (i := 59) (by decide +kernel)) rfl, by decide +kernel, by decide +kernel⟩
theorem wi_X7_putAside : zMi mX7_putAside := ⟨zTin (List.mem_of_getElem? (i := 793) (by decide +kernel)) rfl, zTin (List.mem_of_getElem? (i := 28) (by decide +kernel)) rfl⟩
abbrev mX7_putBack : zM := (yX7_putBack, cX7_putBack, 2, none)
theorem wm_X7_putBack : zMv mX7_putBack 0 := ⟨zTin (List.mem_of_getElem? (i := 814) (by decide +kernel)) rfl, zTin (List.mem_of_getElem? (i := 59) (by decide +kernel)) rfl, by decide +kernel, by decide +kernel⟩
theorem wi_X7_putBack : zMi mX7_putBack := ⟨zTin (List.mem_of_getElem? (i := 813) (by decide +kernel)) rfl, zTin (List.mem_of_getElem? (i := 33) (by decide +kernel)) rfl⟩
abbrev mX7_placeOf : zM := (yX7_placeOf, cX7_placeOf, 3, (some .int))
theorem wm_X7_placeOf : zMv mX7_placeOf 1 := ⟨zTin (List.mem_of_getElem? (i := 775) (by decide +kernel)) rfl, zTin (List.mem_of_getElem? (i := 59) (by decide +kernel)) rfl, by decide +kernel, by decide +kernel⟩
theorem wi_X7_placeOf : zMi mX7_placeOf := ⟨zTin (List.mem_of_getElem? (i := 774) (by decide +kernel)) rfl, zTin (List.mem_of_getElem? (i := 25) (by decide +kernel)) rfl⟩
abbrev mX7_isFull : zM := (yX7_isFull, cX7_isFull, 1, (some .boolean))
theorem wm_X7_isFull : zMv mX7_isFull 0 := ⟨zTin (List.mem_of_getElem? (i := 748) (by decide +kernel)) rfl, zTin (List.mem_of_getElem? (i := 59) (by decide +kernel)) rfl, by decide +kernel, by decide +kernel⟩
theorem wi_X7_isFull : zMi mX7_isFull := ⟨zTin (List.mem_of_getElem? (i := 747) (by decide +kernel)) rfl, zTin (List.mem_of_getElem? (i := 21) (by decide +kernel)) rfl⟩
abbrev mX7_lends : zM := (yX7_lends, cX7_lends, 6, (some .int))
theorem wm_X7_lends : zMv mX7_lends 4 := ⟨zTin (List.mem_of_getElem? (i := 756) (by decide +kernel)) rfl, zTin (List.mem_of_getElem? (i := 59) (by decide +kernel)) rfl, by decide +kernel, by decide +kernel⟩
theorem wi_X7_lends : zMi mX7_lends := ⟨zTin (List.mem_of_getElem? (i := 755) (by decide +kernel)) rfl, zTin (List.mem_of_getElem? (i := 23) (by decide +kernel)) rfl⟩
abbrev mX7_canGive : zM := (yX7_canGive, cX7_canGive, 4, (some .boolean))
theorem wm_X7_canGive : zMv mX7_canGive 1 := ⟨zTin (List.mem_of_getElem? (i := 779) (by decide +kernel)) rfl, zTin (List.mem_of_getElem? (i := 59) (by decide +kernel)) rfl, by decide +kernel, by decide +kernel⟩
theorem wi_X7_canGive : zMi mX7_canGive := ⟨zTin (List.mem_of_getElem? (i := 778) (by decide +kernel)) rfl, zTin (List.mem_of_getElem? (i := 26) (by decide +kernel)) rfl⟩
abbrev mX7_gives : zM := (yX7_gives, cX7_gives, 5, (some .int))
theorem wm_X7_gives : zMv mX7_gives 1 := ⟨zTin (List.mem_of_getElem? (i := 783) (by decide +kernel)) rfl, zTin (List.mem_of_getElem? (i := 59) (by decide +kernel)) rfl, by decide +kernel, by decide +kernel⟩
theorem wi_X7_gives : zMi mX7_gives := ⟨zTin (List.mem_of_getElem? (i := 782) (by decide +kernel)) rfl, zTin (List.mem_of_getElem? (i := 27) (by decide +kernel)) rfl⟩
abbrev mX7_isGathering : zM := (yX7_isGathering, cX7_isGathering, 4, (some .boolean))
theorem wm_X7_isGathering : zMv mX7_isGathering 1 := ⟨zTin (List.mem_of_getElem? (i := 810) (by decide +kernel)) rfl, zTin (List.mem_of_getElem? (i := 59) (by decide +kernel)) rfl, by decide +kernel, by decide +kernel⟩
theorem wi_X7_isGathering : zMi mX7_isGathering := ⟨zTin (List.mem_of_getElem? (i := 809) (by decide +kernel)) rfl, zTin (List.mem_of_getElem? (i := 32) (by decide +kernel)) rfl⟩
abbrev mX7_enter : zM := (yX7_enter, cX7_enter, 2, none)
theorem wm_X7_enter : zMv mX7_enter 1 := ⟨zTin (List.mem_of_getElem? (i := 802) (by decide +kernel)) rfl, zTin (List.mem_of_getElem? (i := 59) (by decide +kernel)) rfl, by decide +kernel, by decide +kernel⟩
theorem wi_X7_enter : zMi mX7_enter := ⟨zTin (List.mem_of_getElem? (i := 801) (by decide +kernel)) rfl, zTin (List.mem_of_getElem? (i := 30) (by decide +kernel)) rfl⟩
abbrev mX7_latest : zM := (yX7_latest, cX7_latest, 7, (some .int))
theorem wm_X7_latest : zMv mX7_latest 3 := ⟨zTin (List.mem_of_getElem? (i := 806) (by decide +kernel)) rfl, zTin (List.mem_of_getElem? (i := 59) (by decide +kernel)) rfl, by decide +kernel, by decide +kernel⟩
theorem wi_X7_latest : zMi mX7_latest := ⟨zTin (List.mem_of_getElem? (i := 805) (by decide +kernel)) rfl, zTin (List.mem_of_getElem? (i := 31) (by decide +kernel)) rfl⟩
abbrev mX7_gathers : zM := (yX7_gathers, cX7_gathers, 9, (some .int))
theorem wm_X7_gathers : zMv mX7_gathers 2 := ⟨zTin (List.mem_of_getElem? (i := 798) (by decide +kernel)) rfl, zTin (List.mem_of_getElem? (i := 59) (by decide +kernel)) rfl, by decide +kernel, by decide +kernel⟩
theorem wi_X7_gathers : zMi mX7_gathers := ⟨zTin (List.mem_of_getElem? (i := 797) (by decide +kernel)) rfl, zTin (List.mem_of_getElem? (i := 29) (by decide +kernel)) rfl⟩
abbrev mX7_wouldGather : zM := (yX7_wouldGather, cX7_wouldGather, 6, (some .int))
theorem wm_X7_wouldGather : zMv mX7_wouldGather 2 := ⟨zTin (List.mem_of_getElem? (i := 938) (by decide +kernel)) rfl, zTin (List.mem_of_getElem? (i := 59) (by decide +kernel)) rfl, by decide +kernel, by decide +kernel⟩
theorem wi_X7_wouldGather : zMi mX7_wouldGather := ⟨zTin (List.mem_of_getElem? (i := 937) (by decide +kernel)) rfl, zTin (List.mem_of_getElem? (i := 49) (by decide +kernel)) rfl⟩
abbrev mX7_lendFault : zM := (yX7_lendFault, cX7_lendFault, 5, (some .int))
theorem wm_X7_lendFault : zMv mX7_lendFault 4 := ⟨zTin (List.mem_of_getElem? (i := 732) (by decide +kernel)) rfl, zTin (List.mem_of_getElem? (i := 59) (by decide +kernel)) rfl, by decide +kernel, by decide +kernel⟩
theorem wi_X7_lendFault : zMi mX7_lendFault := ⟨zTin (List.mem_of_getElem? (i := 731) (by decide +kernel)) rfl, zTin (List.mem_of_getElem? (i := 20) (by decide +kernel)) rfl⟩
abbrev mX7_backFault : zM := (yX7_backFault, cX7_backFault, 3, (some .int))
theorem wm_X7_backFault : zMv mX7_backFault 1 := ⟨zTin (List.mem_of_getElem? (i := 771) (by decide +kernel)) rfl, zTin (List.mem_of_getElem? (i := 59) (by decide +kernel)) rfl, by decide +kernel, by decide +kernel⟩
theorem wi_X7_backFault : zMi mX7_backFault := ⟨zTin (List.mem_of_getElem? (i := 770) (by decide +kernel)) rfl, zTin (List.mem_of_getElem? (i := 24) (by decide +kernel)) rfl⟩
abbrev mX7_writeFault : zM := (yX7_writeFault, cX7_writeFault, 4, (some .int))
theorem wm_X7_writeFault : zMv mX7_writeFault 3 := ⟨zTin (List.mem_of_getElem? (i := 826) (by decide +kernel)) rfl, zTin (List.mem_of_getElem? (i := 59) (by decide +kernel)) rfl, by decide +kernel, by decide +kernel⟩
theorem wi_X7_writeFault : zMi mX7_writeFault := ⟨zTin (List.mem_of_getElem? (i := 825) (by decide +kernel)) rfl, zTin (List.mem_of_getElem? (i := 34) (by decide +kernel)) rfl⟩
abbrev mX7_lend : zM := (yX7_lend, cX7_lend, 6, (some .int))
theorem wm_X7_lend : zMv mX7_lend 4 := ⟨zTin (List.mem_of_getElem? (i := 728) (by decide +kernel)) rfl, zTin (List.mem_of_getElem? (i := 59) (by decide +kernel)) rfl, by decide +kernel, by decide +kernel⟩
theorem wi_X7_lend : zMi mX7_lend := ⟨zTin (List.mem_of_getElem? (i := 726) (by decide +kernel)) rfl, zTin (List.mem_of_getElem? (i := 727) (by decide +kernel)) rfl⟩
abbrev mX7_half : zM := (yX7_half, cX7_half, 6, (some .int))
theorem wm_X7_half : zMv mX7_half 3 := ⟨zTin (List.mem_of_getElem? (i := 763) (by decide +kernel)) rfl, zTin (List.mem_of_getElem? (i := 59) (by decide +kernel)) rfl, by decide +kernel, by decide +kernel⟩
theorem wi_X7_half : zMi mX7_half := ⟨zTin (List.mem_of_getElem? (i := 761) (by decide +kernel)) rfl, zTin (List.mem_of_getElem? (i := 762) (by decide +kernel)) rfl⟩
abbrev mX7_giveBack : zM := (yX7_giveBack, cX7_giveBack, 3, (some .int))
theorem wm_X7_giveBack : zMv mX7_giveBack 1 := ⟨zTin (List.mem_of_getElem? (i := 767) (by decide +kernel)) rfl, zTin (List.mem_of_getElem? (i := 59) (by decide +kernel)) rfl, by decide +kernel, by decide +kernel⟩
theorem wi_X7_giveBack : zMi mX7_giveBack := ⟨zTin (List.mem_of_getElem? (i := 765) (by decide +kernel)) rfl, zTin (List.mem_of_getElem? (i := 766) (by decide +kernel)) rfl⟩
abbrev mX7_gather : zM := (yX7_gather, cX7_gather, 4, (some .int))
theorem wm_X7_gather : zMv mX7_gather 2 := ⟨zTin (List.mem_of_getElem? (i := 787) (by decide +kernel)) rfl, zTin (List.mem_of_getElem? (i := 59) (by decide +kernel)) rfl, by decide +kernel, by decide +kernel⟩
theorem wi_X7_gather : zMi mX7_gather := ⟨zTin (List.mem_of_getElem? (i := 785) (by decide +kernel)) rfl, zTin (List.mem_of_getElem? (i := 786) (by decide +kernel)) rfl⟩
abbrev mX7_hold : zM := (yX7_hold, cX7_hold, 4, (some .int))
theorem wm_X7_hold : zMv mX7_hold 3 := ⟨zTin (List.mem_of_getElem? (i := 818) (by decide +kernel)) rfl, zTin (List.mem_of_getElem? (i := 59) (by decide +kernel)) rfl, by decide +kernel, by decide +kernel⟩
theorem wi_X7_hold : zMi mX7_hold := ⟨zTin (List.mem_of_getElem? (i := 816) (by decide +kernel)) rfl, zTin (List.mem_of_getElem? (i := 817) (by decide +kernel)) rfl⟩
abbrev mX7_writes : zM := (yX7_writes, cX7_writes, 3, (some .int))
theorem wm_X7_writes : zMv mX7_writes 2 := ⟨zTin (List.mem_of_getElem? (i := 830) (by decide +kernel)) rfl, zTin (List.mem_of_getElem? (i := 59) (by decide +kernel)) rfl, by decide +kernel, by decide +kernel⟩
theorem wi_X7_writes : zMi mX7_writes := ⟨zTin (List.mem_of_getElem? (i := 829) (by decide +kernel)) rfl, zTin (List.mem_of_getElem? (i := 35) (by decide +kernel)) rfl⟩
abbrev mX7_write : zM := (yX7_write, cX7_write, 5, (some .int))
theorem wm_X7_write : zMv mX7_write 3 := ⟨zTin (List.mem_of_getElem? (i := 822) (by decide +kernel)) rfl, zTin (List.mem_of_getElem? (i := 59) (by decide +kernel)) rfl, by decide +kernel, by decide +kernel⟩
theorem wi_X7_write : zMi mX7_write := ⟨zTin (List.mem_of_getElem? (i := 820) (by decide +kernel)) rfl, zTin (List.mem_of_getElem? (i := 821) (by decide +kernel)) rfl⟩
abbrev mX7_read : zM := (yX7_read, cX7_read, 3, (some .int))
theorem wm_X7_read : zMv mX7_read 2 := ⟨zTin (List.mem_of_getElem? (i := 834) (by decide +kernel)) rfl, zTin (List.mem_of_getElem? (i := 59) (by decide +kernel)) rfl, by decide +kernel, by decide +kernel⟩
theorem wi_X7_read : zMi mX7_read := ⟨zTin (List.mem_of_getElem? (i := 832) (by decide +kernel)) rfl, zTin (List.mem_of_getElem? (i := 833) (by decide +kernel)) rfl⟩
abbrev mX7_placeOfClaim : zM := (yX7_placeOfClaim, cX7_placeOfClaim, 5, (some .int))
theorem wm_X7_placeOfClaim : zMv mX7_placeOfClaim 2 := ⟨zTin (List.mem_of_getElem? (i := 842) (by decide +kernel)) rfl, zTin (List.mem_of_getElem? (i := 59) (by decide +kernel)) rfl, by decide +kernel, by decide +kernel⟩
theorem wi_X7_placeOfClaim : zMi mX7_placeOfClaim := ⟨zTin (List.mem_of_getElem? (i := 841) (by decide +kernel)) rfl, zTin (List.mem_of_getElem? (i := 36) (by decide +kernel)) rfl⟩
abbrev mX7_dropClaim : zM := (yX7_dropClaim, cX7_dropClaim, 4, none)
theorem wm_X7_dropClaim : zMv mX7_dropClaim 2 := ⟨zTin (List.mem_of_getElem? (i := 846) (by decide +kernel)) rfl, zTin (List.mem_of_getElem? (i := 59) (by decide +kernel)) rfl, by decide +kernel, by decide +kernel⟩
theorem wi_X7_dropClaim : zMi mX7_dropClaim := ⟨zTin (List.mem_of_getElem? (i := 845) (by decide +kernel)) rfl, zTin (List.mem_of_getElem? (i := 37) (by decide +kernel)) rfl⟩
abbrev mX7_claim : zM := (yX7_claim, cX7_claim, 5, (some .int))
theorem wm_X7_claim : zMv mX7_claim 3 := ⟨zTin (List.mem_of_getElem? (i := 838) (by decide +kernel)) rfl, zTin (List.mem_of_getElem? (i := 59) (by decide +kernel)) rfl, by decide +kernel, by decide +kernel⟩
theorem wi_X7_claim : zMi mX7_claim := ⟨zTin (List.mem_of_getElem? (i := 836) (by decide +kernel)) rfl, zTin (List.mem_of_getElem? (i := 837) (by decide +kernel)) rfl⟩
abbrev mX7_serves : zM := (yX7_serves, cX7_serves, 7, (some .int))
theorem wm_X7_serves : zMv mX7_serves 1 := ⟨zTin (List.mem_of_getElem? (i := 854) (by decide +kernel)) rfl, zTin (List.mem_of_getElem? (i := 59) (by decide +kernel)) rfl, by decide +kernel, by decide +kernel⟩
theorem wi_X7_serves : zMi mX7_serves := ⟨zTin (List.mem_of_getElem? (i := 853) (by decide +kernel)) rfl, zTin (List.mem_of_getElem? (i := 38) (by decide +kernel)) rfl⟩
abbrev mX7_serve : zM := (yX7_serve, cX7_serve, 3, (some .int))
theorem wm_X7_serve : zMv mX7_serve 1 := ⟨zTin (List.mem_of_getElem? (i := 850) (by decide +kernel)) rfl, zTin (List.mem_of_getElem? (i := 59) (by decide +kernel)) rfl, by decide +kernel, by decide +kernel⟩
theorem wi_X7_serve : zMi mX7_serve := ⟨zTin (List.mem_of_getElem? (i := 848) (by decide +kernel)) rfl, zTin (List.mem_of_getElem? (i := 849) (by decide +kernel)) rfl⟩
abbrev mX7_loansOf : zM := (yX7_loansOf, cX7_loansOf, 4, (some .int))
theorem wm_X7_loansOf : zMv mX7_loansOf 1 := ⟨zTin (List.mem_of_getElem? (i := 862) (by decide +kernel)) rfl, zTin (List.mem_of_getElem? (i := 59) (by decide +kernel)) rfl, by decide +kernel, by decide +kernel⟩
theorem wi_X7_loansOf : zMi mX7_loansOf := ⟨zTin (List.mem_of_getElem? (i := 861) (by decide +kernel)) rfl, zTin (List.mem_of_getElem? (i := 39) (by decide +kernel)) rfl⟩
abbrev mX7_handOver : zM := (yX7_handOver, cX7_handOver, 4, (some .int))
theorem wm_X7_handOver : zMv mX7_handOver 2 := ⟨zTin (List.mem_of_getElem? (i := 858) (by decide +kernel)) rfl, zTin (List.mem_of_getElem? (i := 59) (by decide +kernel)) rfl, by decide +kernel, by decide +kernel⟩
theorem wi_X7_handOver : zMi mX7_handOver := ⟨zTin (List.mem_of_getElem? (i := 856) (by decide +kernel)) rfl, zTin (List.mem_of_getElem? (i := 857) (by decide +kernel)) rfl⟩
abbrev mX7_type : zM := (yX7_type, cX7_type, 2, (some .int))
theorem wm_X7_type : zMv mX7_type 1 := ⟨zTin (List.mem_of_getElem? (i := 866) (by decide +kernel)) rfl, zTin (List.mem_of_getElem? (i := 59) (by decide +kernel)) rfl, by decide +kernel, by decide +kernel⟩
theorem wi_X7_type : zMi mX7_type := ⟨zTin (List.mem_of_getElem? (i := 864) (by decide +kernel)) rfl, zTin (List.mem_of_getElem? (i := 865) (by decide +kernel)) rfl⟩
abbrev mX7_clearText : zM := (yX7_clearText, cX7_clearText, 2, (some .int))
theorem wm_X7_clearText : zMv mX7_clearText 0 := ⟨zTin (List.mem_of_getElem? (i := 870) (by decide +kernel)) rfl, zTin (List.mem_of_getElem? (i := 59) (by decide +kernel)) rfl, by decide +kernel, by decide +kernel⟩
theorem wi_X7_clearText : zMi mX7_clearText := ⟨zTin (List.mem_of_getElem? (i := 868) (by decide +kernel)) rfl, zTin (List.mem_of_getElem? (i := 869) (by decide +kernel)) rfl⟩
abbrev mX7_sign : zM := (yX7_sign, cX7_sign, 4, (some .int))
theorem wm_X7_sign : zMv mX7_sign 2 := ⟨zTin (List.mem_of_getElem? (i := 890) (by decide +kernel)) rfl, zTin (List.mem_of_getElem? (i := 59) (by decide +kernel)) rfl, by decide +kernel, by decide +kernel⟩
theorem wi_X7_sign : zMi mX7_sign := ⟨zTin (List.mem_of_getElem? (i := 889) (by decide +kernel)) rfl, zTin (List.mem_of_getElem? (i := 43) (by decide +kernel)) rfl⟩
abbrev mX7_digit : zM := (yX7_digit, cX7_digit, 1, (some .int))
theorem wm_X7_digit : zMv mX7_digit 0 := ⟨zTin (List.mem_of_getElem? (i := 894) (by decide +kernel)) rfl, zTin (List.mem_of_getElem? (i := 59) (by decide +kernel)) rfl, by decide +kernel, by decide +kernel⟩
theorem wi_X7_digit : zMi mX7_digit := ⟨zTin (List.mem_of_getElem? (i := 893) (by decide +kernel)) rfl, zTin (List.mem_of_getElem? (i := 44) (by decide +kernel)) rfl⟩
abbrev mX7_number : zM := (yX7_number, cX7_number, 4, (some .int))
theorem wm_X7_number : zMv mX7_number 2 := ⟨zTin (List.mem_of_getElem? (i := 886) (by decide +kernel)) rfl, zTin (List.mem_of_getElem? (i := 59) (by decide +kernel)) rfl, by decide +kernel, by decide +kernel⟩
theorem wi_X7_number : zMi mX7_number := ⟨zTin (List.mem_of_getElem? (i := 885) (by decide +kernel)) rfl, zTin (List.mem_of_getElem? (i := 42) (by decide +kernel)) rfl⟩
abbrev mX7_order : zM := (yX7_order, cX7_order, 3, none)
theorem wm_X7_order : zMv mX7_order 0 := ⟨zTin (List.mem_of_getElem? (i := 882) (by decide +kernel)) rfl, zTin (List.mem_of_getElem? (i := 59) (by decide +kernel)) rfl, by decide +kernel, by decide +kernel⟩
theorem wi_X7_order : zMi mX7_order := ⟨zTin (List.mem_of_getElem? (i := 881) (by decide +kernel)) rfl, zTin (List.mem_of_getElem? (i := 41) (by decide +kernel)) rfl⟩
abbrev mX7_does : zM := (yX7_does, cX7_does, 6, (some .int))
theorem wm_X7_does : zMv mX7_does 0 := ⟨zTin (List.mem_of_getElem? (i := 898) (by decide +kernel)) rfl, zTin (List.mem_of_getElem? (i := 59) (by decide +kernel)) rfl, by decide +kernel, by decide +kernel⟩
theorem wi_X7_does : zMi mX7_does := ⟨zTin (List.mem_of_getElem? (i := 897) (by decide +kernel)) rfl, zTin (List.mem_of_getElem? (i := 45) (by decide +kernel)) rfl⟩
abbrev mX7_go : zM := (yX7_go, cX7_go, 5, (some .int))
theorem wm_X7_go : zMv mX7_go 1 := ⟨zTin (List.mem_of_getElem? (i := 878) (by decide +kernel)) rfl, zTin (List.mem_of_getElem? (i := 59) (by decide +kernel)) rfl, by decide +kernel, by decide +kernel⟩
theorem wi_X7_go : zMi mX7_go := ⟨zTin (List.mem_of_getElem? (i := 877) (by decide +kernel)) rfl, zTin (List.mem_of_getElem? (i := 40) (by decide +kernel)) rfl⟩
abbrev mX7_perform : zM := (yX7_perform, cX7_perform, 2, (some .int))
theorem wm_X7_perform : zMv mX7_perform 0 := ⟨zTin (List.mem_of_getElem? (i := 874) (by decide +kernel)) rfl, zTin (List.mem_of_getElem? (i := 59) (by decide +kernel)) rfl, by decide +kernel, by decide +kernel⟩
theorem wi_X7_perform : zMi mX7_perform := ⟨zTin (List.mem_of_getElem? (i := 872) (by decide +kernel)) rfl, zTin (List.mem_of_getElem? (i := 873) (by decide +kernel)) rfl⟩
abbrev mX7_stop : zM := (yX7_stop, cX7_stop, 2, (some .int))
theorem wm_X7_stop : zMv mX7_stop 1 := ⟨zTin (List.mem_of_getElem? (i := 902) (by decide +kernel)) rfl, zTin (List.mem_of_getElem? (i := 59) (by decide +kernel)) rfl, by decide +kernel, by decide +kernel⟩
theorem wi_X7_stop : zMi mX7_stop := ⟨zTin (List.mem_of_getElem? (i := 900) (by decide +kernel)) rfl, zTin (List.mem_of_getElem? (i := 901) (by decide +kernel)) rfl⟩
abbrev mX7_undo : zM := (yX7_undo, cX7_undo, 2, (some .int))
theorem wm_X7_undo : zMv mX7_undo 0 := ⟨zTin (List.mem_of_getElem? (i := 906) (by decide +kernel)) rfl, zTin (List.mem_of_getElem? (i := 59) (by decide +kernel)) rfl, by decide +kernel, by decide +kernel⟩
theorem wi_X7_undo : zMi mX7_undo := ⟨zTin (List.mem_of_getElem? (i := 904) (by decide +kernel)) rfl, zTin (List.mem_of_getElem? (i := 905) (by decide +kernel)) rfl⟩
abbrev mX7_keep : zM := (yX7_keep, cX7_keep, 2, (some .int))
theorem wm_X7_keep : zMv mX7_keep 0 := ⟨zTin (List.mem_of_getElem? (i := 910) (by decide +kernel)) rfl, zTin (List.mem_of_getElem? (i := 59) (by decide +kernel)) rfl, by decide +kernel, by decide +kernel⟩
theorem wi_X7_keep : zMi mX7_keep := ⟨zTin (List.mem_of_getElem? (i := 908) (by decide +kernel)) rfl, zTin (List.mem_of_getElem? (i := 909) (by decide +kernel)) rfl⟩
abbrev mX7_restore : zM := (yX7_restore, cX7_restore, 2, (some .int))
theorem wm_X7_restore : zMv mX7_restore 0 := ⟨zTin (List.mem_of_getElem? (i := 914) (by decide +kernel)) rfl, zTin (List.mem_of_getElem? (i := 59) (by decide +kernel)) rfl, by decide +kernel, by decide +kernel⟩
theorem wi_X7_restore : zMi mX7_restore := ⟨zTin (List.mem_of_getElem? (i := 912) (by decide +kernel)) rfl, zTin (List.mem_of_getElem? (i := 913) (by decide +kernel)) rfl⟩
abbrev mX7_agentsOf : zM := (yX7_agentsOf, cX7_agentsOf, 5, (some .int))
theorem wm_X7_agentsOf : zMv mX7_agentsOf 2 := ⟨zTin (List.mem_of_getElem? (i := 922) (by decide +kernel)) rfl, zTin (List.mem_of_getElem? (i := 59) (by decide +kernel)) rfl, by decide +kernel, by decide +kernel⟩
theorem wi_X7_agentsOf : zMi mX7_agentsOf := ⟨zTin (List.mem_of_getElem? (i := 921) (by decide +kernel)) rfl, zTin (List.mem_of_getElem? (i := 46) (by decide +kernel)) rfl⟩
abbrev mX7_wholeOf : zM := (yX7_wholeOf, cX7_wholeOf, 4, (some .int))
theorem wm_X7_wholeOf : zMv mX7_wholeOf 1 := ⟨zTin (List.mem_of_getElem? (i := 926) (by decide +kernel)) rfl, zTin (List.mem_of_getElem? (i := 59) (by decide +kernel)) rfl, by decide +kernel, by decide +kernel⟩
theorem wi_X7_wholeOf : zMi mX7_wholeOf := ⟨zTin (List.mem_of_getElem? (i := 925) (by decide +kernel)) rfl, zTin (List.mem_of_getElem? (i := 47) (by decide +kernel)) rfl⟩
abbrev mX7_cell : zM := (yX7_cell, cX7_cell, 3, (some .int))
theorem wm_X7_cell : zMv mX7_cell 2 := ⟨zTin (List.mem_of_getElem? (i := 918) (by decide +kernel)) rfl, zTin (List.mem_of_getElem? (i := 59) (by decide +kernel)) rfl, by decide +kernel, by decide +kernel⟩
theorem wi_X7_cell : zMi mX7_cell := ⟨zTin (List.mem_of_getElem? (i := 916) (by decide +kernel)) rfl, zTin (List.mem_of_getElem? (i := 917) (by decide +kernel)) rfl⟩
abbrev mX7_sum : zM := (yX7_sum, cX7_sum, 6, (some .int))
theorem wm_X7_sum : zMv mX7_sum 3 := ⟨zTin (List.mem_of_getElem? (i := 934) (by decide +kernel)) rfl, zTin (List.mem_of_getElem? (i := 59) (by decide +kernel)) rfl, by decide +kernel, by decide +kernel⟩
theorem wi_X7_sum : zMi mX7_sum := ⟨zTin (List.mem_of_getElem? (i := 933) (by decide +kernel)) rfl, zTin (List.mem_of_getElem? (i := 48) (by decide +kernel)) rfl⟩
abbrev mX7_part : zM := (yX7_part, cX7_part, 4, (some .int))
theorem wm_X7_part : zMv mX7_part 3 := ⟨zTin (List.mem_of_getElem? (i := 930) (by decide +kernel)) rfl, zTin (List.mem_of_getElem? (i := 59) (by decide +kernel)) rfl, by decide +kernel, by decide +kernel⟩
theorem wi_X7_part : zMi mX7_part := ⟨zTin (List.mem_of_getElem? (i := 928) (by decide +kernel)) rfl, zTin (List.mem_of_getElem? (i := 929) (by decide +kernel)) rfl⟩
abbrev mX7_loan : zM := (yX7_loan, cX7_loan, 4, (some .int))
theorem wm_X7_loan : zMv mX7_loan 2 := ⟨zTin (List.mem_of_getElem? (i := 942) (by decide +kernel)) rfl, zTin (List.mem_of_getElem? (i := 59) (by decide +kernel)) rfl, by decide +kernel, by decide +kernel⟩
theorem wi_X7_loan : zMi mX7_loan := ⟨zTin (List.mem_of_getElem? (i := 940) (by decide +kernel)) rfl, zTin (List.mem_of_getElem? (i := 941) (by decide +kernel)) rfl⟩
abbrev mX7_reason : zM := (yX7_reason, cX7_reason, 3, (some .int))
theorem wm_X7_reason : zMv mX7_reason 2 := ⟨zTin (List.mem_of_getElem? (i := 946) (by decide +kernel)) rfl, zTin (List.mem_of_getElem? (i := 59) (by decide +kernel)) rfl, by decide +kernel, by decide +kernel⟩
theorem wi_X7_reason : zMi mX7_reason := ⟨zTin (List.mem_of_getElem? (i := 944) (by decide +kernel)) rfl, zTin (List.mem_of_getElem? (i := 945) (by decide +kernel)) rfl⟩
abbrev mX7_chain : zM := (yX7_chain, cX7_chain, 9, (some .int))
theorem wm_X7_chain : zMv mX7_chain 1 := ⟨zTin (List.mem_of_getElem? (i := 950) (by decide +kernel)) rfl, zTin (List.mem_of_getElem? (i := 59) (by decide +kernel)) rfl, by decide +kernel, by decide +kernel⟩
theorem wi_X7_chain : zMi mX7_chain := ⟨zTin (List.mem_of_getElem? (i := 948) (by decide +kernel)) rfl, zTin (List.mem_of_getElem? (i := 949) (by decide +kernel)) rfl⟩
abbrev mX7_sumOfCells : zM := (yX7_sumOfCells, cX7_sumOfCells, 4, (some .int))
theorem wm_X7_sumOfCells : zMv mX7_sumOfCells 1 := ⟨zTin (List.mem_of_getElem? (i := 958) (by decide +kernel)) rfl, zTin (List.mem_of_getElem? (i := 59) (by decide +kernel)) rfl, by decide +kernel, by decide +kernel⟩
theorem wi_X7_sumOfCells : zMi mX7_sumOfCells := ⟨zTin (List.mem_of_getElem? (i := 957) (by decide +kernel)) rfl, zTin (List.mem_of_getElem? (i := 50) (by decide +kernel)) rfl⟩
abbrev mX7_count : zM := (yX7_count, cX7_count, 2, (some .int))
theorem wm_X7_count : zMv mX7_count 1 := ⟨zTin (List.mem_of_getElem? (i := 954) (by decide +kernel)) rfl, zTin (List.mem_of_getElem? (i := 59) (by decide +kernel)) rfl, by decide +kernel, by decide +kernel⟩
theorem wi_X7_count : zMi mX7_count := ⟨zTin (List.mem_of_getElem? (i := 952) (by decide +kernel)) rfl, zTin (List.mem_of_getElem? (i := 953) (by decide +kernel)) rfl⟩
abbrev mJ6_bitCount_0f7a4 : zM := (yJ6_bitCount_0f7a4, cJ6_bitCount_0f7a4, 1, (some .int))
theorem wm_J6_bitCount_0f7a4 : zMv mJ6_bitCount_0f7a4 1 := ⟨zTin (List.mem_of_getElem? (i := 579) (by decide +kernel)) rfl, zTin (List.mem_of_getElem? (i := 63) (by decide +kernel)) rfl, by decide +kernel, by decide +kernel⟩
theorem wt_J6_bitCount_0f7a4 : Cond.static yJ6_bitCount_0f7a4 ∈ zT := zTin (List.mem_of_getElem? (i := 578) (by decide +kernel)) rfl
abbrev mJ9_max_7cf53 : zM := (yJ9_max_7cf53, cJ9_max_7cf53, 2, (some .int))
theorem wm_J9_max_7cf53 : zMv mJ9_max_7cf53 2 := ⟨zTin (List.mem_of_getElem? (i := 631) (by decide +kernel)) rfl, zTin (List.mem_of_getElem? (i := 61) (by decide +kernel)) rfl, by decide +kernel, by decide +kernel⟩
theorem wt_J9_max_7cf53 : Cond.static yJ9_max_7cf53 ∈ zT := zTin (List.mem_of_getElem? (i := 630) (by decide +kernel)) rfl
abbrev mJ9_min_7cf53 : zM := (yJ9_min_7cf53, cJ9_min_7cf53, 2, (some .int))
theorem wm_J9_min_7cf53 : zMv mJ9_min_7cf53 2 := ⟨zTin (List.mem_of_getElem? (i := 324) (by decide +kernel)) rfl, zTin (List.mem_of_getElem? (i := 61) (by decide +kernel)) rfl, by decide +kernel, by decide +kernel⟩
theorem wt_J9_min_7cf53 : Cond.static yJ9_min_7cf53 ∈ zT := zTin (List.mem_of_getElem? (i := 323) (by decide +kernel)) rfl
abbrev mJ7_fill_53178 : zM := (yJ7_fill_53178, cJ7_fill_53178, 4, none)
theorem wm_J7_fill_53178 : zMv mJ7_fill_53178 2 := ⟨zTin (List.mem_of_getElem? (i := 370) (by decide +kernel)) rfl, zTin (List.mem_of_getElem? (i := 62) (by decide +kernel)) rfl, by decide +kernel, by decide +kernel⟩
theorem wt_J7_fill_53178 : Cond.static yJ7_fill_53178 ∈ zT := zTin (List.mem_of_getElem? (i := 369) (by decide +kernel)) rfl
