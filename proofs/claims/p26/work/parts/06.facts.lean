/-! words, methods, the cells' layout (printed by wip/gen/gen.py) -/
theorem inT0 : ∀ w ∈ u_ws RX0 TX0 2, w ∈ zT := by decide +kernel
theorem inT1 : ∀ w ∈ u_ws RX1 TX1 1, w ∈ zT := by decide +kernel
theorem inT2 : ∀ w ∈ u_ws RX2 TX2 3, w ∈ zT := by decide +kernel
theorem inT3 : ∀ w ∈ u_ws RX3 TX3 8, w ∈ zT := by decide +kernel
theorem inT4 : ∀ w ∈ u_ws RX4 TX4 8, w ∈ zT := by decide +kernel
theorem inT5 : ∀ w ∈ u_ws RX5 TX5 5, w ∈ zT := by decide +kernel
theorem inT6 : ∀ w ∈ u_ws RX6 TX6 10, w ∈ zT := by decide +kernel
theorem wf_X6_10 : Cond.fieldLink RX6 10 "LentParts" "now" "LLentParts$State;" ∈ zT := zTin (List.mem_of_getElem? (i := 174) (by decide +kernel)) rfl
theorem wf_X6_16 : Cond.fieldLink RX6 16 "LentParts" "trial" "LLentParts$State;" ∈ zT := zTin (List.mem_of_getElem? (i := 175) (by decide +kernel)) rfl
theorem wf_X6_19 : Cond.fieldLink RX6 19 "LentParts" "snapshot" "LLentParts$State;" ∈ zT := zTin (List.mem_of_getElem? (i := 176) (by decide +kernel)) rfl
theorem wf_X6_25 : Cond.fieldLink RX6 25 "LentParts" "history" "LLentParts$History;" ∈ zT := zTin (List.mem_of_getElem? (i := 177) (by decide +kernel)) rfl
theorem wf_X6_32 : Cond.fieldLink RX6 32 "LentParts" "gathering" "LLentParts$Gathering;" ∈ zT := zTin (List.mem_of_getElem? (i := 178) (by decide +kernel)) rfl
theorem wf_X6_39 : Cond.fieldLink RX6 39 "LentParts" "text" "LLentParts$Text;" ∈ zT := zTin (List.mem_of_getElem? (i := 179) (by decide +kernel)) rfl
theorem wf_X6_83 : Cond.fieldLink RX6 83 "LentParts$State" "value" "[I" ∈ zT := zTin (List.mem_of_getElem? (i := 94) (by decide +kernel)) rfl
theorem wf_X6_141 : Cond.fieldLink RX6 141 "LentParts$State" "loans" "LLentParts$Loans;" ∈ zT := zTin (List.mem_of_getElem? (i := 105) (by decide +kernel)) rfl
theorem wf_X6_145 : Cond.fieldLink RX6 145 "LentParts$Loans" "standing" "I" ∈ zT := zTin (List.mem_of_getElem? (i := 70) (by decide +kernel)) rfl
theorem wf_X6_150 : Cond.fieldLink RX6 150 "LentParts$State" "version" "[I" ∈ zT := zTin (List.mem_of_getElem? (i := 96) (by decide +kernel)) rfl
theorem wf_X6_153 : Cond.fieldLink RX6 153 "LentParts$State" "owner" "[I" ∈ zT := zTin (List.mem_of_getElem? (i := 98) (by decide +kernel)) rfl
theorem wf_X6_159 : Cond.fieldLink RX6 159 "LentParts$State" "claims" "LLentParts$Claims;" ∈ zT := zTin (List.mem_of_getElem? (i := 102) (by decide +kernel)) rfl
theorem wf_X6_198 : Cond.fieldLink RX6 198 "LentParts$Loans" "lender" "[I" ∈ zT := zTin (List.mem_of_getElem? (i := 56) (by decide +kernel)) rfl
theorem wf_X6_201 : Cond.fieldLink RX6 201 "LentParts$Loans" "borrower" "[I" ∈ zT := zTin (List.mem_of_getElem? (i := 60) (by decide +kernel)) rfl
theorem wf_X6_204 : Cond.fieldLink RX6 204 "LentParts$Loans" "cell" "[I" ∈ zT := zTin (List.mem_of_getElem? (i := 64) (by decide +kernel)) rfl
theorem wf_X6_207 : Cond.fieldLink RX6 207 "LentParts$Loans" "parts" "[I" ∈ zT := zTin (List.mem_of_getElem? (i := 68) (by decide +kernel)) rfl
theorem wf_X6_216 : Cond.fieldLink RX6 216 "LentParts$Loans" "made" "I" ∈ zT := zTin (List.mem_of_getElem? (i := 72) (by decide +kernel)) rfl
theorem wf_X6_225 : Cond.fieldLink RX6 225 "LentParts$State" "writes" "I" ∈ zT := zTin (List.mem_of_getElem? (i := 107) (by decide +kernel)) rfl
theorem wf_X6_228 : Cond.fieldLink RX6 228 "LentParts$Loans" "ended" "I" ∈ zT := zTin (List.mem_of_getElem? (i := 75) (by decide +kernel)) rfl
theorem wf_X0_9 : Cond.fieldLink RX0 9 "LentParts$Claims" "agents" "[I" ∈ zT := zTin (List.mem_of_getElem? (i := 39) (by decide +kernel)) rfl
theorem wf_X0_15 : Cond.fieldLink RX0 15 "LentParts$Claims" "sizes" "[I" ∈ zT := zTin (List.mem_of_getElem? (i := 40) (by decide +kernel)) rfl
theorem wf_X1_9 : Cond.fieldLink RX1 9 "LentParts$Gathering" "idleAt" "[I" ∈ zT := zTin (List.mem_of_getElem? (i := 150) (by decide +kernel)) rfl
theorem wf_X1_21 : Cond.fieldLink RX1 21 "LentParts$State" "loans" "LLentParts$Loans;" ∈ zT := zTin (List.mem_of_getElem? (i := 104) (by decide +kernel)) rfl
theorem wf_X1_27 : Cond.fieldLink RX1 27 "LentParts$Loans" "ended" "I" ∈ zT := zTin (List.mem_of_getElem? (i := 73) (by decide +kernel)) rfl
theorem wf_X1_52 : Cond.fieldLink RX1 52 "LentParts$Loans" "borrower" "[I" ∈ zT := zTin (List.mem_of_getElem? (i := 58) (by decide +kernel)) rfl
theorem wf_X1_55 : Cond.fieldLink RX1 55 "LentParts$Loans" "cell" "[I" ∈ zT := zTin (List.mem_of_getElem? (i := 62) (by decide +kernel)) rfl
theorem wf_X1_62 : Cond.fieldLink RX1 62 "LentParts$Loans" "parts" "[I" ∈ zT := zTin (List.mem_of_getElem? (i := 66) (by decide +kernel)) rfl
theorem wf_X2_13 : Cond.fieldLink RX2 13 "LentParts$History" "rows" "[LLentParts$State;" ∈ zT := zTin (List.mem_of_getElem? (i := 134) (by decide +kernel)) rfl
theorem wf_X2_18 : Cond.fieldLink RX2 18 "LentParts$History" "size" "I" ∈ zT := zTin (List.mem_of_getElem? (i := 136) (by decide +kernel)) rfl
theorem wf_X2_22 : Cond.fieldLink RX2 22 "LentParts$History" "open" "I" ∈ zT := zTin (List.mem_of_getElem? (i := 135) (by decide +kernel)) rfl
theorem wf_X3_9 : Cond.fieldLink RX3 9 "LentParts$Loans" "number" "[I" ∈ zT := zTin (List.mem_of_getElem? (i := 53) (by decide +kernel)) rfl
theorem wf_X3_15 : Cond.fieldLink RX3 15 "LentParts$Loans" "lender" "[I" ∈ zT := zTin (List.mem_of_getElem? (i := 54) (by decide +kernel)) rfl
theorem wf_X3_18 : Cond.fieldLink RX3 18 "LentParts$Loans" "borrower" "[I" ∈ zT := zTin (List.mem_of_getElem? (i := 57) (by decide +kernel)) rfl
theorem wf_X3_21 : Cond.fieldLink RX3 21 "LentParts$Loans" "cell" "[I" ∈ zT := zTin (List.mem_of_getElem? (i := 61) (by decide +kernel)) rfl
theorem wf_X3_24 : Cond.fieldLink RX3 24 "LentParts$Loans" "parts" "[I" ∈ zT := zTin (List.mem_of_getElem? (i := 65) (by decide +kernel)) rfl
theorem wf_X3_27 : Cond.fieldLink RX3 27 "LentParts$Loans" "standing" "I" ∈ zT := zTin (List.mem_of_getElem? (i := 69) (by decide +kernel)) rfl
theorem wf_X3_31 : Cond.fieldLink RX3 31 "LentParts$Loans" "made" "I" ∈ zT := zTin (List.mem_of_getElem? (i := 71) (by decide +kernel)) rfl
theorem wf_X3_34 : Cond.fieldLink RX3 34 "LentParts$Loans" "ended" "I" ∈ zT := zTin (List.mem_of_getElem? (i := 74) (by decide +kernel)) rfl
theorem wf_X4_9 : Cond.fieldLink RX4 9 "LentParts$State" "value" "[I" ∈ zT := zTin (List.mem_of_getElem? (i := 93) (by decide +kernel)) rfl
theorem wf_X4_15 : Cond.fieldLink RX4 15 "LentParts$State" "version" "[I" ∈ zT := zTin (List.mem_of_getElem? (i := 95) (by decide +kernel)) rfl
theorem wf_X4_18 : Cond.fieldLink RX4 18 "LentParts$State" "owner" "[I" ∈ zT := zTin (List.mem_of_getElem? (i := 97) (by decide +kernel)) rfl
theorem wf_X4_21 : Cond.fieldLink RX4 21 "LentParts$State" "held" "[I" ∈ zT := zTin (List.mem_of_getElem? (i := 99) (by decide +kernel)) rfl
theorem wf_X4_24 : Cond.fieldLink RX4 24 "LentParts$State" "holding" "[I" ∈ zT := zTin (List.mem_of_getElem? (i := 100) (by decide +kernel)) rfl
theorem wf_X4_30 : Cond.fieldLink RX4 30 "LentParts$State" "claims" "LLentParts$Claims;" ∈ zT := zTin (List.mem_of_getElem? (i := 101) (by decide +kernel)) rfl
theorem wf_X4_37 : Cond.fieldLink RX4 37 "LentParts$State" "loans" "LLentParts$Loans;" ∈ zT := zTin (List.mem_of_getElem? (i := 103) (by decide +kernel)) rfl
theorem wf_X4_54 : Cond.fieldLink RX4 54 "LentParts$State" "writes" "I" ∈ zT := zTin (List.mem_of_getElem? (i := 106) (by decide +kernel)) rfl
theorem wf_X4_95 : Cond.fieldLink RX4 95 "LentParts$Loans" "lender" "[I" ∈ zT := zTin (List.mem_of_getElem? (i := 55) (by decide +kernel)) rfl
theorem wf_X4_98 : Cond.fieldLink RX4 98 "LentParts$Loans" "cell" "[I" ∈ zT := zTin (List.mem_of_getElem? (i := 63) (by decide +kernel)) rfl
theorem wf_X4_101 : Cond.fieldLink RX4 101 "LentParts$Loans" "borrower" "[I" ∈ zT := zTin (List.mem_of_getElem? (i := 59) (by decide +kernel)) rfl
theorem wf_X4_104 : Cond.fieldLink RX4 104 "LentParts$Loans" "parts" "[I" ∈ zT := zTin (List.mem_of_getElem? (i := 67) (by decide +kernel)) rfl
theorem wf_X5_9 : Cond.fieldLink RX5 9 "LentParts$Text" "signs" "[I" ∈ zT := zTin (List.mem_of_getElem? (i := 160) (by decide +kernel)) rfl
theorem wf_X5_15 : Cond.fieldLink RX5 15 "LentParts$Text" "slots" "[I" ∈ zT := zTin (List.mem_of_getElem? (i := 162) (by decide +kernel)) rfl
theorem wf_X5_18 : Cond.fieldLink RX5 18 "LentParts$Text" "length" "I" ∈ zT := zTin (List.mem_of_getElem? (i := 161) (by decide +kernel)) rfl
theorem wc_L_7 : Cond.constant RL 7 2147483647 ∈ zT := zTin (List.mem_of_getElem? (i := 337) (by decide +kernel)) rfl
theorem wc_J6_265 : Cond.constant RJ6 265 1431655765 ∈ zT := zTin (List.mem_of_getElem? (i := 239) (by decide +kernel)) rfl
theorem wc_J6_266 : Cond.constant RJ6 266 858993459 ∈ zT := zTin (List.mem_of_getElem? (i := 240) (by decide +kernel)) rfl
theorem wc_J6_267 : Cond.constant RJ6 267 252645135 ∈ zT := zTin (List.mem_of_getElem? (i := 241) (by decide +kernel)) rfl
theorem wl_X6_43 : Cond.methodLink RX6 43 yX2_open ∈ zT := zTin (List.mem_of_getElem? (i := 371) (by decide +kernel)) rfl
theorem wl_X6_47 : Cond.methodLink RX6 47 yX4_makeLoan ∈ zT := zTin (List.mem_of_getElem? (i := 413) (by decide +kernel)) rfl
theorem wl_X6_51 : Cond.methodLink RX6 51 yX6_close ∈ zT := zTin (List.mem_of_getElem? (i := 394) (by decide +kernel)) rfl
theorem wl_X6_55 : Cond.methodLink RX6 55 yX4_makeHalfLoan ∈ zT := zTin (List.mem_of_getElem? (i := 376) (by decide +kernel)) rfl
theorem wl_X6_59 : Cond.methodLink RX6 59 yX4_endLoan ∈ zT := zTin (List.mem_of_getElem? (i := 418) (by decide +kernel)) rfl
theorem wl_X6_62 : Cond.methodLink RX6 62 yX6_gatherCell ∈ zT := zTin (List.mem_of_getElem? (i := 423) (by decide +kernel)) rfl
theorem wl_X6_66 : Cond.methodLink RX6 66 yX4_setHolding ∈ zT := zTin (List.mem_of_getElem? (i := 431) (by decide +kernel)) rfl
theorem wl_X6_70 : Cond.methodLink RX6 70 yX4_writeValue ∈ zT := zTin (List.mem_of_getElem? (i := 439) (by decide +kernel)) rfl
theorem wl_X6_73 : Cond.methodLink RX6 73 yX6_isAgent ∈ zT := zTin (List.mem_of_getElem? (i := 246) (by decide +kernel)) rfl
theorem wl_X6_77 : Cond.methodLink RX6 77 yX6_isCell ∈ zT := zTin (List.mem_of_getElem? (i := 205) (by decide +kernel)) rfl
theorem wl_X6_80 : Cond.methodLink RX6 80 yX4_heldBy ∈ zT := zTin (List.mem_of_getElem? (i := 249) (by decide +kernel)) rfl
theorem wl_X6_87 : Cond.methodLink RX6 87 yX4_setClaim ∈ zT := zTin (List.mem_of_getElem? (i := 447) (by decide +kernel)) rfl
theorem wl_X6_90 : Cond.methodLink RX6 90 yX6_serveClaims ∈ zT := zTin (List.mem_of_getElem? (i := 465) (by decide +kernel)) rfl
theorem wl_X6_93 : Cond.methodLink RX6 93 yX4_changeOwner ∈ zT := zTin (List.mem_of_getElem? (i := 478) (by decide +kernel)) rfl
theorem wl_X6_128 : Cond.methodLink RX6 128 yX2_takeLatest ∈ zT := zTin (List.mem_of_getElem? (i := 525) (by decide +kernel)) rfl
theorem wl_X6_132 : Cond.methodLink RX6 132 yX4_copyFrom ∈ zT := zTin (List.mem_of_getElem? (i := 274) (by decide +kernel)) rfl
theorem wl_X6_135 : Cond.methodLink RX6 135 yX2_size ∈ zT := zTin (List.mem_of_getElem? (i := 359) (by decide +kernel)) rfl
theorem wl_X6_156 : Cond.methodLink RX6 156 yX4_countReaders ∈ zT := zTin (List.mem_of_getElem? (i := 208) (by decide +kernel)) rfl
theorem wl_X6_163 : Cond.methodLink RX6 163 yX0_size ∈ zT := zTin (List.mem_of_getElem? (i := 216) (by decide +kernel)) rfl
theorem wl_X6_167 : Cond.methodLink RX6 167 yX0_first ∈ zT := zTin (List.mem_of_getElem? (i := 220) (by decide +kernel)) rfl
theorem wl_X6_170 : Cond.methodLink RX6 170 yX3_countOf ∈ zT := zTin (List.mem_of_getElem? (i := 224) (by decide +kernel)) rfl
theorem wl_X6_173 : Cond.methodLink RX6 173 yX4_holderOfWhole ∈ zT := zTin (List.mem_of_getElem? (i := 228) (by decide +kernel)) rfl
theorem wl_X6_176 : Cond.methodLink RX6 176 yX4_countHolding ∈ zT := zTin (List.mem_of_getElem? (i := 232) (by decide +kernel)) rfl
theorem wl_X6_179 : Cond.methodLink RX6 179 yX3_partsLent ∈ zT := zTin (List.mem_of_getElem? (i := 250) (by decide +kernel)) rfl
theorem wl_X6_182 : Cond.methodLink RX6 182 yX3_partsBorrowed ∈ zT := zTin (List.mem_of_getElem? (i := 258) (by decide +kernel)) rfl
theorem wl_X6_185 : Cond.methodLink RX6 185 yX4_isHolding ∈ zT := zTin (List.mem_of_getElem? (i := 262) (by decide +kernel)) rfl
theorem wl_X6_189 : Cond.methodLink RX6 189 yX0_placeOf ∈ zT := zTin (List.mem_of_getElem? (i := 266) (by decide +kernel)) rfl
theorem wl_X6_192 : Cond.methodLink RX6 192 yX6_heldAfterGathering ∈ zT := zTin (List.mem_of_getElem? (i := 270) (by decide +kernel)) rfl
theorem wl_X6_195 : Cond.methodLink RX6 195 yX3_rowOf ∈ zT := zTin (List.mem_of_getElem? (i := 490) (by decide +kernel)) rfl
theorem wl_X6_210 : Cond.methodLink RX6 210 yX4_canEndLoan ∈ zT := zTin (List.mem_of_getElem? (i := 491) (by decide +kernel)) rfl
theorem wl_X6_213 : Cond.methodLink RX6 213 yX3_longestChain ∈ zT := zTin (List.mem_of_getElem? (i := 504) (by decide +kernel)) rfl
theorem wl_X6_219 : Cond.methodLink RX6 219 yX4_countWholeCells ∈ zT := zTin (List.mem_of_getElem? (i := 345) (by decide +kernel)) rfl
theorem wl_X6_222 : Cond.methodLink RX6 222 yX0_sizeOfAll ∈ zT := zTin (List.mem_of_getElem? (i := 350) (by decide +kernel)) rfl
theorem wl_X6_231 : Cond.methodLink RX6 231 yX4_countAllHolding ∈ zT := zTin (List.mem_of_getElem? (i := 354) (by decide +kernel)) rfl
theorem wl_X6_234 : Cond.methodLink RX6 234 yX5_size ∈ zT := zTin (List.mem_of_getElem? (i := 363) (by decide +kernel)) rfl
theorem wl_X6_235 : Cond.methodLink RX6 235 yX2_opened ∈ zT := zTin (List.mem_of_getElem? (i := 398) (by decide +kernel)) rfl
theorem wl_X6_238 : Cond.methodLink RX6 238 yX2_record ∈ zT := zTin (List.mem_of_getElem? (i := 402) (by decide +kernel)) rfl
theorem wl_X6_241 : Cond.methodLink RX6 241 yX1_run ∈ zT := zTin (List.mem_of_getElem? (i := 291) (by decide +kernel)) rfl
theorem wl_X6_245 : Cond.methodLink RX6 245 yX4_grantFirstClaim ∈ zT := zTin (List.mem_of_getElem? (i := 469) (by decide +kernel)) rfl
theorem wl_X0_18 : Cond.methodLink RX0 18 arraycopyName ∈ zT := zTin (List.mem_of_getElem? (i := 285) (by decide +kernel)) rfl
theorem wl_X1_15 : Cond.methodLink RX1 15 yJ7_fill_53178 ∈ zT := zTin (List.mem_of_getElem? (i := 295) (by decide +kernel)) rfl
theorem wl_X1_33 : Cond.methodLink RX1 33 yX1_gatherFor ∈ zT := zTin (List.mem_of_getElem? (i := 298) (by decide +kernel)) rfl
theorem wl_X1_37 : Cond.methodLink RX1 37 yX3_latestAhead ∈ zT := zTin (List.mem_of_getElem? (i := 301) (by decide +kernel)) rfl
theorem wl_X1_41 : Cond.methodLink RX1 41 yX1_needyBorrower ∈ zT := zTin (List.mem_of_getElem? (i := 305) (by decide +kernel)) rfl
theorem wl_X1_45 : Cond.methodLink RX1 45 yX4_endLoan ∈ zT := zTin (List.mem_of_getElem? (i := 313) (by decide +kernel)) rfl
theorem wl_X1_49 : Cond.methodLink RX1 49 yX3_rowOf ∈ zT := zTin (List.mem_of_getElem? (i := 308) (by decide +kernel)) rfl
theorem wl_X1_58 : Cond.methodLink RX1 58 yX4_heldBy ∈ zT := zTin (List.mem_of_getElem? (i := 312) (by decide +kernel)) rfl
theorem wl_X2_25 : Cond.methodLink RX2 25 yX4_copyFrom ∈ zT := zTin (List.mem_of_getElem? (i := 375) (by decide +kernel)) rfl
theorem wl_X2_29 : Cond.methodLink RX2 29 yJ9_min_7cf53 ∈ zT := zTin (List.mem_of_getElem? (i := 406) (by decide +kernel)) rfl
theorem wl_X3_37 : Cond.methodLink RX3 37 arraycopyName ∈ zT := zTin (List.mem_of_getElem? (i := 290) (by decide +kernel)) rfl
theorem wl_X3_43 : Cond.methodLink RX3 43 yX3_sumParts ∈ zT := zTin (List.mem_of_getElem? (i := 254) (by decide +kernel)) rfl
theorem wl_X3_47 : Cond.methodLink RX3 47 yX3_linksOf ∈ zT := zTin (List.mem_of_getElem? (i := 508) (by decide +kernel)) rfl
theorem wl_X3_51 : Cond.methodLink RX3 51 yX3_longestFrom ∈ zT := zTin (List.mem_of_getElem? (i := 512) (by decide +kernel)) rfl
theorem wl_X3_55 : Cond.methodLink RX3 55 yJ9_max_7cf53 ∈ zT := zTin (List.mem_of_getElem? (i := 515) (by decide +kernel)) rfl
theorem wl_X4_41 : Cond.methodLink RX4 41 arraycopyName ∈ zT := zTin (List.mem_of_getElem? (i := 278) (by decide +kernel)) rfl
theorem wl_X4_47 : Cond.methodLink RX4 47 yX0_copyFrom ∈ zT := zTin (List.mem_of_getElem? (i := 281) (by decide +kernel)) rfl
theorem wl_X4_51 : Cond.methodLink RX4 51 yX3_copyFrom ∈ zT := zTin (List.mem_of_getElem? (i := 286) (by decide +kernel)) rfl
theorem wl_X4_58 : ∀ U, zNe U → va_Nw (.methodLinkNest RX4 58 yX6_isAgent "LentParts") U := fun _ h => h.1
theorem wl_X4_62 : ∀ U, zNe U → va_Nw (.methodLinkNest RX4 62 yX6_isCell "LentParts") U := fun _ h => h.2
theorem wl_X4_65 : Cond.methodLink RX4 65 yX4_heldBy ∈ zT := zTin (List.mem_of_getElem? (i := 212) (by decide +kernel)) rfl
theorem wl_X4_69 : Cond.methodLink RX4 69 yX4_isHolding ∈ zT := zTin (List.mem_of_getElem? (i := 322) (by decide +kernel)) rfl
theorem wl_X4_73 : Cond.methodLink RX4 73 yX3_hasRoom ∈ zT := zTin (List.mem_of_getElem? (i := 386) (by decide +kernel)) rfl
theorem wl_X4_77 : Cond.methodLink RX4 77 yX4_moveParts ∈ zT := zTin (List.mem_of_getElem? (i := 323) (by decide +kernel)) rfl
theorem wl_X4_81 : Cond.methodLink RX4 81 yX3_append ∈ zT := zTin (List.mem_of_getElem? (i := 390) (by decide +kernel)) rfl
theorem wl_X4_85 : Cond.methodLink RX4 85 yX4_makeLoan ∈ zT := zTin (List.mem_of_getElem? (i := 382) (by decide +kernel)) rfl
theorem wl_X4_88 : Cond.methodLink RX4 88 yX3_rowOf ∈ zT := zTin (List.mem_of_getElem? (i := 317) (by decide +kernel)) rfl
theorem wl_X4_92 : Cond.methodLink RX4 92 yX4_canEndLoan ∈ zT := zTin (List.mem_of_getElem? (i := 318) (by decide +kernel)) rfl
theorem wl_X4_107 : Cond.methodLink RX4 107 yX3_remove ∈ zT := zTin (List.mem_of_getElem? (i := 327) (by decide +kernel)) rfl
theorem wl_X4_111 : Cond.methodLink RX4 111 yX0_placeOf ∈ zT := zTin (List.mem_of_getElem? (i := 451) (by decide +kernel)) rfl
theorem wl_X4_114 : Cond.methodLink RX4 114 yX0_append ∈ zT := zTin (List.mem_of_getElem? (i := 452) (by decide +kernel)) rfl
theorem wl_X4_117 : Cond.methodLink RX4 117 yX0_remove ∈ zT := zTin (List.mem_of_getElem? (i := 456) (by decide +kernel)) rfl
theorem wl_X4_119 : Cond.methodLink RX4 119 yX0_size ∈ zT := zTin (List.mem_of_getElem? (i := 460) (by decide +kernel)) rfl
theorem wl_X4_122 : Cond.methodLink RX4 122 yX0_first ∈ zT := zTin (List.mem_of_getElem? (i := 473) (by decide +kernel)) rfl
theorem wl_X4_125 : Cond.methodLink RX4 125 yX3_countOf ∈ zT := zTin (List.mem_of_getElem? (i := 482) (by decide +kernel)) rfl
theorem wl_X4_128 : Cond.methodLink RX4 128 yX4_holderOfWhole ∈ zT := zTin (List.mem_of_getElem? (i := 349) (by decide +kernel)) rfl
theorem wl_X4_131 : Cond.methodLink RX4 131 yJ6_bitCount_0f7a4 ∈ zT := zTin (List.mem_of_getElem? (i := 236) (by decide +kernel)) rfl
theorem wl_X4_136 : Cond.methodLink RX4 136 yX4_countHolding ∈ zT := zTin (List.mem_of_getElem? (i := 358) (by decide +kernel)) rfl
theorem wl_L_8 : Cond.methodLink RL 8 yL_low ∈ zT := zTin (List.mem_of_getElem? (i := 334) (by decide +kernel)) rfl
theorem wl_L_14 : Cond.methodLink RL 14 yX6_count ∈ zT := zTin (List.mem_of_getElem? (i := 341) (by decide +kernel)) rfl
theorem wl_L_20 : Cond.methodLink RL 20 yX6_half ∈ zT := zTin (List.mem_of_getElem? (i := 367) (by decide +kernel)) rfl
theorem wl_L_24 : Cond.methodLink RL 24 yX6_lend ∈ zT := zTin (List.mem_of_getElem? (i := 409) (by decide +kernel)) rfl
theorem wl_L_28 : Cond.methodLink RL 28 yX6_giveBack ∈ zT := zTin (List.mem_of_getElem? (i := 414) (by decide +kernel)) rfl
theorem wl_L_31 : Cond.methodLink RL 31 yX6_gather ∈ zT := zTin (List.mem_of_getElem? (i := 419) (by decide +kernel)) rfl
theorem wl_L_34 : Cond.methodLink RL 34 yX6_hold ∈ zT := zTin (List.mem_of_getElem? (i := 427) (by decide +kernel)) rfl
theorem wl_L_38 : Cond.methodLink RL 38 yX6_write ∈ zT := zTin (List.mem_of_getElem? (i := 435) (by decide +kernel)) rfl
theorem wl_L_41 : Cond.methodLink RL 41 yX6_claim ∈ zT := zTin (List.mem_of_getElem? (i := 443) (by decide +kernel)) rfl
theorem wl_L_44 : Cond.methodLink RL 44 yX6_serve ∈ zT := zTin (List.mem_of_getElem? (i := 461) (by decide +kernel)) rfl
theorem wl_L_47 : Cond.methodLink RL 47 yX6_handOver ∈ zT := zTin (List.mem_of_getElem? (i := 474) (by decide +kernel)) rfl
theorem wl_L_50 : Cond.methodLink RL 50 yX6_cell ∈ zT := zTin (List.mem_of_getElem? (i := 201) (by decide +kernel)) rfl
theorem wl_L_53 : Cond.methodLink RL 53 yX6_loan ∈ zT := zTin (List.mem_of_getElem? (i := 486) (by decide +kernel)) rfl
theorem wl_L_56 : Cond.methodLink RL 56 yX6_part ∈ zT := zTin (List.mem_of_getElem? (i := 242) (by decide +kernel)) rfl
theorem wl_L_59 : Cond.methodLink RL 59 yX6_read ∈ zT := zTin (List.mem_of_getElem? (i := 492) (by decide +kernel)) rfl
theorem wl_L_62 : Cond.methodLink RL 62 yX6_reason ∈ zT := zTin (List.mem_of_getElem? (i := 496) (by decide +kernel)) rfl
theorem wl_L_65 : Cond.methodLink RL 65 yX6_chain ∈ zT := zTin (List.mem_of_getElem? (i := 500) (by decide +kernel)) rfl
theorem wl_L_68 : Cond.methodLink RL 68 yX6_undo ∈ zT := zTin (List.mem_of_getElem? (i := 521) (by decide +kernel)) rfl
theorem wl_L_73 : Cond.methodLink RL 73 yL_cell ∈ zT := zTin (List.mem_of_getElem? (i := 331) (by decide +kernel)) rfl
theorem wl_L_76 : Cond.methodLink RL 76 yL_does ∈ zT := zTin (List.mem_of_getElem? (i := 338) (by decide +kernel)) rfl
theorem wl_L_80 : Cond.methodLink RL 80 yL_isCellSo ∈ zT := zTin (List.mem_of_getElem? (i := 483) (by decide +kernel)) rfl
theorem wl_L_84 : Cond.methodLink RL 84 yL_isGatherSo ∈ zT := zTin (List.mem_of_getElem? (i := 518) (by decide +kernel)) rfl
theorem wn_copy : Cond.native arraycopyName ∈ zT := zTin (List.mem_of_getElem? (i := 280) (by decide +kernel)) rfl
theorem ws_copy : Cond.static arraycopyName ∈ zT := zTin (List.mem_of_getElem? (i := 279) (by decide +kernel)) rfl
theorem wi_copy : Cond.initialized "java/lang/System" ∈ zT := zTin (List.mem_of_getElem? (i := 16) (by decide +kernel)) rfl
abbrev mX0_copyFrom : zM := (yX0_copyFrom, cX0_copyFrom, 2, none)
theorem wm_X0_copyFrom : zMv mX0_copyFrom 1 := ⟨zTin (List.mem_of_getElem? (i := 284) (by decide +kernel)) rfl, zTin (List.mem_of_getElem? (i := 10) (by decide +kernel)) rfl, by decide +kernel, by decide +kernel⟩
theorem wi_X0_copyFrom : zMi mX0_copyFrom := ⟨zTin (List.mem_of_getElem? (i := 282) (by decide +kernel)) rfl, zTin (List.mem_of_getElem? (i := 283) (by decide +kernel)) rfl⟩
abbrev mX0_size : zM := (yX0_size, cX0_size, 2, (some .int))
theorem wm_X0_size : zMv mX0_size 1 := ⟨zTin (List.mem_of_getElem? (i := 219) (by decide +kernel)) rfl, zTin (List.mem_of_getElem? (i := 10) (by decide +kernel)) rfl, by decide +kernel, by decide +kernel⟩
theorem wi_X0_size : zMi mX0_size := ⟨zTin (List.mem_of_getElem? (i := 217) (by decide +kernel)) rfl, zTin (List.mem_of_getElem? (i := 218) (by decide +kernel)) rfl⟩
abbrev mX0_sizeOfAll : zM := (yX0_sizeOfAll, cX0_sizeOfAll, 3, (some .int))
theorem wm_X0_sizeOfAll : zMv mX0_sizeOfAll 0 := ⟨zTin (List.mem_of_getElem? (i := 353) (by decide +kernel)) rfl, zTin (List.mem_of_getElem? (i := 10) (by decide +kernel)) rfl, by decide +kernel, by decide +kernel⟩
theorem wi_X0_sizeOfAll : zMi mX0_sizeOfAll := ⟨zTin (List.mem_of_getElem? (i := 351) (by decide +kernel)) rfl, zTin (List.mem_of_getElem? (i := 352) (by decide +kernel)) rfl⟩
abbrev mX0_first : zM := (yX0_first, cX0_first, 2, (some .int))
theorem wm_X0_first : zMv mX0_first 1 := ⟨zTin (List.mem_of_getElem? (i := 223) (by decide +kernel)) rfl, zTin (List.mem_of_getElem? (i := 10) (by decide +kernel)) rfl, by decide +kernel, by decide +kernel⟩
theorem wi_X0_first : zMi mX0_first := ⟨zTin (List.mem_of_getElem? (i := 221) (by decide +kernel)) rfl, zTin (List.mem_of_getElem? (i := 222) (by decide +kernel)) rfl⟩
abbrev mX0_placeOf : zM := (yX0_placeOf, cX0_placeOf, 4, (some .int))
theorem wm_X0_placeOf : zMv mX0_placeOf 2 := ⟨zTin (List.mem_of_getElem? (i := 269) (by decide +kernel)) rfl, zTin (List.mem_of_getElem? (i := 10) (by decide +kernel)) rfl, by decide +kernel, by decide +kernel⟩
theorem wi_X0_placeOf : zMi mX0_placeOf := ⟨zTin (List.mem_of_getElem? (i := 267) (by decide +kernel)) rfl, zTin (List.mem_of_getElem? (i := 268) (by decide +kernel)) rfl⟩
abbrev mX0_append : zM := (yX0_append, cX0_append, 3, none)
theorem wm_X0_append : zMv mX0_append 2 := ⟨zTin (List.mem_of_getElem? (i := 455) (by decide +kernel)) rfl, zTin (List.mem_of_getElem? (i := 10) (by decide +kernel)) rfl, by decide +kernel, by decide +kernel⟩
theorem wi_X0_append : zMi mX0_append := ⟨zTin (List.mem_of_getElem? (i := 453) (by decide +kernel)) rfl, zTin (List.mem_of_getElem? (i := 454) (by decide +kernel)) rfl⟩
abbrev mX0_remove : zM := (yX0_remove, cX0_remove, 5, none)
theorem wm_X0_remove : zMv mX0_remove 2 := ⟨zTin (List.mem_of_getElem? (i := 459) (by decide +kernel)) rfl, zTin (List.mem_of_getElem? (i := 10) (by decide +kernel)) rfl, by decide +kernel, by decide +kernel⟩
theorem wi_X0_remove : zMi mX0_remove := ⟨zTin (List.mem_of_getElem? (i := 457) (by decide +kernel)) rfl, zTin (List.mem_of_getElem? (i := 458) (by decide +kernel)) rfl⟩
abbrev mX1_run : zM := (yX1_run, cX1_run, 5, (some .int))
theorem wm_X1_run : zMv mX1_run 3 := ⟨zTin (List.mem_of_getElem? (i := 294) (by decide +kernel)) rfl, zTin (List.mem_of_getElem? (i := 13) (by decide +kernel)) rfl, by decide +kernel, by decide +kernel⟩
theorem wi_X1_run : zMi mX1_run := ⟨zTin (List.mem_of_getElem? (i := 292) (by decide +kernel)) rfl, zTin (List.mem_of_getElem? (i := 293) (by decide +kernel)) rfl⟩
abbrev mX1_gatherFor : zM := (yX1_gatherFor, cX1_gatherFor, 13, none)
theorem wm_X1_gatherFor : zMv mX1_gatherFor 6 := ⟨zTin (List.mem_of_getElem? (i := 300) (by decide +kernel)) rfl, zTin (List.mem_of_getElem? (i := 13) (by decide +kernel)) rfl, by decide +kernel, by decide +kernel⟩
theorem wt_X1_gatherFor : Cond.static yX1_gatherFor ∈ zT := zTin (List.mem_of_getElem? (i := 299) (by decide +kernel)) rfl
abbrev mX1_needyBorrower : zM := (yX1_needyBorrower, cX1_needyBorrower, 7, (some .int))
theorem wm_X1_needyBorrower : zMv mX1_needyBorrower 3 := ⟨zTin (List.mem_of_getElem? (i := 307) (by decide +kernel)) rfl, zTin (List.mem_of_getElem? (i := 13) (by decide +kernel)) rfl, by decide +kernel, by decide +kernel⟩
theorem wt_X1_needyBorrower : Cond.static yX1_needyBorrower ∈ zT := zTin (List.mem_of_getElem? (i := 306) (by decide +kernel)) rfl
abbrev mX2_size : zM := (yX2_size, cX2_size, 1, (some .int))
theorem wm_X2_size : zMv mX2_size 0 := ⟨zTin (List.mem_of_getElem? (i := 362) (by decide +kernel)) rfl, zTin (List.mem_of_getElem? (i := 12) (by decide +kernel)) rfl, by decide +kernel, by decide +kernel⟩
theorem wi_X2_size : zMi mX2_size := ⟨zTin (List.mem_of_getElem? (i := 360) (by decide +kernel)) rfl, zTin (List.mem_of_getElem? (i := 361) (by decide +kernel)) rfl⟩
abbrev mX2_open : zM := (yX2_open, cX2_open, 2, none)
theorem wm_X2_open : zMv mX2_open 1 := ⟨zTin (List.mem_of_getElem? (i := 374) (by decide +kernel)) rfl, zTin (List.mem_of_getElem? (i := 12) (by decide +kernel)) rfl, by decide +kernel, by decide +kernel⟩
theorem wi_X2_open : zMi mX2_open := ⟨zTin (List.mem_of_getElem? (i := 372) (by decide +kernel)) rfl, zTin (List.mem_of_getElem? (i := 373) (by decide +kernel)) rfl⟩
abbrev mX2_opened : zM := (yX2_opened, cX2_opened, 1, (some (.object "LentParts$State")))
theorem wm_X2_opened : zMv mX2_opened 0 := ⟨zTin (List.mem_of_getElem? (i := 401) (by decide +kernel)) rfl, zTin (List.mem_of_getElem? (i := 12) (by decide +kernel)) rfl, by decide +kernel, by decide +kernel⟩
theorem wi_X2_opened : zMi mX2_opened := ⟨zTin (List.mem_of_getElem? (i := 399) (by decide +kernel)) rfl, zTin (List.mem_of_getElem? (i := 400) (by decide +kernel)) rfl⟩
abbrev mX2_record : zM := (yX2_record, cX2_record, 1, none)
theorem wm_X2_record : zMv mX2_record 0 := ⟨zTin (List.mem_of_getElem? (i := 405) (by decide +kernel)) rfl, zTin (List.mem_of_getElem? (i := 12) (by decide +kernel)) rfl, by decide +kernel, by decide +kernel⟩
theorem wi_X2_record : zMi mX2_record := ⟨zTin (List.mem_of_getElem? (i := 403) (by decide +kernel)) rfl, zTin (List.mem_of_getElem? (i := 404) (by decide +kernel)) rfl⟩
abbrev mX2_takeLatest : zM := (yX2_takeLatest, cX2_takeLatest, 1, (some (.object "LentParts$State")))
theorem wm_X2_takeLatest : zMv mX2_takeLatest 0 := ⟨zTin (List.mem_of_getElem? (i := 528) (by decide +kernel)) rfl, zTin (List.mem_of_getElem? (i := 12) (by decide +kernel)) rfl, by decide +kernel, by decide +kernel⟩
theorem wi_X2_takeLatest : zMi mX2_takeLatest := ⟨zTin (List.mem_of_getElem? (i := 526) (by decide +kernel)) rfl, zTin (List.mem_of_getElem? (i := 527) (by decide +kernel)) rfl⟩
abbrev mX3_copyFrom : zM := (yX3_copyFrom, cX3_copyFrom, 2, none)
theorem wm_X3_copyFrom : zMv mX3_copyFrom 1 := ⟨zTin (List.mem_of_getElem? (i := 289) (by decide +kernel)) rfl, zTin (List.mem_of_getElem? (i := 11) (by decide +kernel)) rfl, by decide +kernel, by decide +kernel⟩
theorem wi_X3_copyFrom : zMi mX3_copyFrom := ⟨zTin (List.mem_of_getElem? (i := 287) (by decide +kernel)) rfl, zTin (List.mem_of_getElem? (i := 288) (by decide +kernel)) rfl⟩
abbrev mX3_hasRoom : zM := (yX3_hasRoom, cX3_hasRoom, 1, (some .boolean))
theorem wm_X3_hasRoom : zMv mX3_hasRoom 0 := ⟨zTin (List.mem_of_getElem? (i := 389) (by decide +kernel)) rfl, zTin (List.mem_of_getElem? (i := 11) (by decide +kernel)) rfl, by decide +kernel, by decide +kernel⟩
theorem wi_X3_hasRoom : zMi mX3_hasRoom := ⟨zTin (List.mem_of_getElem? (i := 387) (by decide +kernel)) rfl, zTin (List.mem_of_getElem? (i := 388) (by decide +kernel)) rfl⟩
abbrev mX3_append : zM := (yX3_append, cX3_append, 5, (some .int))
theorem wm_X3_append : zMv mX3_append 4 := ⟨zTin (List.mem_of_getElem? (i := 393) (by decide +kernel)) rfl, zTin (List.mem_of_getElem? (i := 11) (by decide +kernel)) rfl, by decide +kernel, by decide +kernel⟩
theorem wi_X3_append : zMi mX3_append := ⟨zTin (List.mem_of_getElem? (i := 391) (by decide +kernel)) rfl, zTin (List.mem_of_getElem? (i := 392) (by decide +kernel)) rfl⟩
abbrev mX3_remove : zM := (yX3_remove, cX3_remove, 3, none)
theorem wm_X3_remove : zMv mX3_remove 1 := ⟨zTin (List.mem_of_getElem? (i := 330) (by decide +kernel)) rfl, zTin (List.mem_of_getElem? (i := 11) (by decide +kernel)) rfl, by decide +kernel, by decide +kernel⟩
theorem wi_X3_remove : zMi mX3_remove := ⟨zTin (List.mem_of_getElem? (i := 328) (by decide +kernel)) rfl, zTin (List.mem_of_getElem? (i := 329) (by decide +kernel)) rfl⟩
abbrev mX3_rowOf : zM := (yX3_rowOf, cX3_rowOf, 3, (some .int))
theorem wm_X3_rowOf : zMv mX3_rowOf 1 := ⟨zTin (List.mem_of_getElem? (i := 311) (by decide +kernel)) rfl, zTin (List.mem_of_getElem? (i := 11) (by decide +kernel)) rfl, by decide +kernel, by decide +kernel⟩
theorem wi_X3_rowOf : zMi mX3_rowOf := ⟨zTin (List.mem_of_getElem? (i := 309) (by decide +kernel)) rfl, zTin (List.mem_of_getElem? (i := 310) (by decide +kernel)) rfl⟩
abbrev mX3_latestAhead : zM := (yX3_latestAhead, cX3_latestAhead, 5, (some .int))
theorem wm_X3_latestAhead : zMv mX3_latestAhead 3 := ⟨zTin (List.mem_of_getElem? (i := 304) (by decide +kernel)) rfl, zTin (List.mem_of_getElem? (i := 11) (by decide +kernel)) rfl, by decide +kernel, by decide +kernel⟩
theorem wi_X3_latestAhead : zMi mX3_latestAhead := ⟨zTin (List.mem_of_getElem? (i := 302) (by decide +kernel)) rfl, zTin (List.mem_of_getElem? (i := 303) (by decide +kernel)) rfl⟩
abbrev mX3_countOf : zM := (yX3_countOf, cX3_countOf, 4, (some .int))
theorem wm_X3_countOf : zMv mX3_countOf 1 := ⟨zTin (List.mem_of_getElem? (i := 227) (by decide +kernel)) rfl, zTin (List.mem_of_getElem? (i := 11) (by decide +kernel)) rfl, by decide +kernel, by decide +kernel⟩
theorem wi_X3_countOf : zMi mX3_countOf := ⟨zTin (List.mem_of_getElem? (i := 225) (by decide +kernel)) rfl, zTin (List.mem_of_getElem? (i := 226) (by decide +kernel)) rfl⟩
abbrev mX3_partsLent : zM := (yX3_partsLent, cX3_partsLent, 3, (some .int))
theorem wm_X3_partsLent : zMv mX3_partsLent 2 := ⟨zTin (List.mem_of_getElem? (i := 253) (by decide +kernel)) rfl, zTin (List.mem_of_getElem? (i := 11) (by decide +kernel)) rfl, by decide +kernel, by decide +kernel⟩
theorem wi_X3_partsLent : zMi mX3_partsLent := ⟨zTin (List.mem_of_getElem? (i := 251) (by decide +kernel)) rfl, zTin (List.mem_of_getElem? (i := 252) (by decide +kernel)) rfl⟩
abbrev mX3_partsBorrowed : zM := (yX3_partsBorrowed, cX3_partsBorrowed, 3, (some .int))
theorem wm_X3_partsBorrowed : zMv mX3_partsBorrowed 2 := ⟨zTin (List.mem_of_getElem? (i := 261) (by decide +kernel)) rfl, zTin (List.mem_of_getElem? (i := 11) (by decide +kernel)) rfl, by decide +kernel, by decide +kernel⟩
theorem wi_X3_partsBorrowed : zMi mX3_partsBorrowed := ⟨zTin (List.mem_of_getElem? (i := 259) (by decide +kernel)) rfl, zTin (List.mem_of_getElem? (i := 260) (by decide +kernel)) rfl⟩
abbrev mX3_sumParts : zM := (yX3_sumParts, cX3_sumParts, 6, (some .int))
theorem wm_X3_sumParts : zMv mX3_sumParts 3 := ⟨zTin (List.mem_of_getElem? (i := 257) (by decide +kernel)) rfl, zTin (List.mem_of_getElem? (i := 11) (by decide +kernel)) rfl, by decide +kernel, by decide +kernel⟩
theorem wi_X3_sumParts : zMi mX3_sumParts := ⟨zTin (List.mem_of_getElem? (i := 256) (by decide +kernel)) rfl, zTin (List.mem_of_getElem? (i := 0) (by decide +kernel)) rfl⟩
abbrev mX3_longestChain : zM := (yX3_longestChain, cX3_longestChain, 6, (some .int))
theorem wm_X3_longestChain : zMv mX3_longestChain 1 := ⟨zTin (List.mem_of_getElem? (i := 507) (by decide +kernel)) rfl, zTin (List.mem_of_getElem? (i := 11) (by decide +kernel)) rfl, by decide +kernel, by decide +kernel⟩
theorem wi_X3_longestChain : zMi mX3_longestChain := ⟨zTin (List.mem_of_getElem? (i := 505) (by decide +kernel)) rfl, zTin (List.mem_of_getElem? (i := 506) (by decide +kernel)) rfl⟩
abbrev mX3_linksOf : zM := (yX3_linksOf, cX3_linksOf, 5, (some .long))
theorem wm_X3_linksOf : zMv mX3_linksOf 1 := ⟨zTin (List.mem_of_getElem? (i := 511) (by decide +kernel)) rfl, zTin (List.mem_of_getElem? (i := 11) (by decide +kernel)) rfl, by decide +kernel, by decide +kernel⟩
theorem wi_X3_linksOf : zMi mX3_linksOf := ⟨zTin (List.mem_of_getElem? (i := 510) (by decide +kernel)) rfl, zTin (List.mem_of_getElem? (i := 6) (by decide +kernel)) rfl⟩
abbrev mX3_longestFrom : zM := (yX3_longestFrom, cX3_longestFrom, 9, (some .int))
theorem wm_X3_longestFrom : zMv mX3_longestFrom 4 := ⟨zTin (List.mem_of_getElem? (i := 514) (by decide +kernel)) rfl, zTin (List.mem_of_getElem? (i := 11) (by decide +kernel)) rfl, by decide +kernel, by decide +kernel⟩
theorem wt_X3_longestFrom : Cond.static yX3_longestFrom ∈ zT := zTin (List.mem_of_getElem? (i := 513) (by decide +kernel)) rfl
abbrev mX4_copyFrom : zM := (yX4_copyFrom, cX4_copyFrom, 2, none)
theorem wm_X4_copyFrom : zMv mX4_copyFrom 1 := ⟨zTin (List.mem_of_getElem? (i := 277) (by decide +kernel)) rfl, zTin (List.mem_of_getElem? (i := 9) (by decide +kernel)) rfl, by decide +kernel, by decide +kernel⟩
theorem wi_X4_copyFrom : zMi mX4_copyFrom := ⟨zTin (List.mem_of_getElem? (i := 275) (by decide +kernel)) rfl, zTin (List.mem_of_getElem? (i := 276) (by decide +kernel)) rfl⟩
abbrev mX4_heldBy : zM := (yX4_heldBy, cX4_heldBy, 3, (some .int))
theorem wm_X4_heldBy : zMv mX4_heldBy 2 := ⟨zTin (List.mem_of_getElem? (i := 215) (by decide +kernel)) rfl, zTin (List.mem_of_getElem? (i := 9) (by decide +kernel)) rfl, by decide +kernel, by decide +kernel⟩
theorem wi_X4_heldBy : zMi mX4_heldBy := ⟨zTin (List.mem_of_getElem? (i := 213) (by decide +kernel)) rfl, zTin (List.mem_of_getElem? (i := 214) (by decide +kernel)) rfl⟩
abbrev mX4_isHolding : zM := (yX4_isHolding, cX4_isHolding, 3, (some .boolean))
theorem wm_X4_isHolding : zMv mX4_isHolding 2 := ⟨zTin (List.mem_of_getElem? (i := 265) (by decide +kernel)) rfl, zTin (List.mem_of_getElem? (i := 9) (by decide +kernel)) rfl, by decide +kernel, by decide +kernel⟩
theorem wi_X4_isHolding : zMi mX4_isHolding := ⟨zTin (List.mem_of_getElem? (i := 263) (by decide +kernel)) rfl, zTin (List.mem_of_getElem? (i := 264) (by decide +kernel)) rfl⟩
abbrev mX4_makeLoan : zM := (yX4_makeLoan, cX4_makeLoan, 5, (some .int))
theorem wm_X4_makeLoan : zMv mX4_makeLoan 4 := ⟨zTin (List.mem_of_getElem? (i := 385) (by decide +kernel)) rfl, zTin (List.mem_of_getElem? (i := 9) (by decide +kernel)) rfl, by decide +kernel, by decide +kernel⟩
theorem wi_X4_makeLoan : zMi mX4_makeLoan := ⟨zTin (List.mem_of_getElem? (i := 383) (by decide +kernel)) rfl, zTin (List.mem_of_getElem? (i := 384) (by decide +kernel)) rfl⟩
abbrev mX4_makeHalfLoan : zM := (yX4_makeHalfLoan, cX4_makeHalfLoan, 6, (some .int))
theorem wm_X4_makeHalfLoan : zMv mX4_makeHalfLoan 3 := ⟨zTin (List.mem_of_getElem? (i := 379) (by decide +kernel)) rfl, zTin (List.mem_of_getElem? (i := 9) (by decide +kernel)) rfl, by decide +kernel, by decide +kernel⟩
theorem wi_X4_makeHalfLoan : zMi mX4_makeHalfLoan := ⟨zTin (List.mem_of_getElem? (i := 377) (by decide +kernel)) rfl, zTin (List.mem_of_getElem? (i := 378) (by decide +kernel)) rfl⟩
abbrev mX4_endLoan : zM := (yX4_endLoan, cX4_endLoan, 5, (some .int))
theorem wm_X4_endLoan : zMv mX4_endLoan 1 := ⟨zTin (List.mem_of_getElem? (i := 316) (by decide +kernel)) rfl, zTin (List.mem_of_getElem? (i := 9) (by decide +kernel)) rfl, by decide +kernel, by decide +kernel⟩
theorem wi_X4_endLoan : zMi mX4_endLoan := ⟨zTin (List.mem_of_getElem? (i := 314) (by decide +kernel)) rfl, zTin (List.mem_of_getElem? (i := 315) (by decide +kernel)) rfl⟩
abbrev mX4_canEndLoan : zM := (yX4_canEndLoan, cX4_canEndLoan, 4, (some .boolean))
theorem wm_X4_canEndLoan : zMv mX4_canEndLoan 1 := ⟨zTin (List.mem_of_getElem? (i := 321) (by decide +kernel)) rfl, zTin (List.mem_of_getElem? (i := 9) (by decide +kernel)) rfl, by decide +kernel, by decide +kernel⟩
theorem wi_X4_canEndLoan : zMi mX4_canEndLoan := ⟨zTin (List.mem_of_getElem? (i := 319) (by decide +kernel)) rfl, zTin (List.mem_of_getElem? (i := 320) (by decide +kernel)) rfl⟩
abbrev mX4_moveParts : zM := (yX4_moveParts, cX4_moveParts, 5, none)
theorem wm_X4_moveParts : zMv mX4_moveParts 4 := ⟨zTin (List.mem_of_getElem? (i := 326) (by decide +kernel)) rfl, zTin (List.mem_of_getElem? (i := 9) (by decide +kernel)) rfl, by decide +kernel, by decide +kernel⟩
theorem wi_X4_moveParts : zMi mX4_moveParts := ⟨zTin (List.mem_of_getElem? (i := 325) (by decide +kernel)) rfl, zTin (List.mem_of_getElem? (i := 2) (by decide +kernel)) rfl⟩
abbrev mX4_setHolding : zM := (yX4_setHolding, cX4_setHolding, 4, (some .int))
theorem wm_X4_setHolding : zMv mX4_setHolding 3 := ⟨zTin (List.mem_of_getElem? (i := 434) (by decide +kernel)) rfl, zTin (List.mem_of_getElem? (i := 9) (by decide +kernel)) rfl, by decide +kernel, by decide +kernel⟩
theorem wi_X4_setHolding : zMi mX4_setHolding := ⟨zTin (List.mem_of_getElem? (i := 432) (by decide +kernel)) rfl, zTin (List.mem_of_getElem? (i := 433) (by decide +kernel)) rfl⟩
abbrev mX4_writeValue : zM := (yX4_writeValue, cX4_writeValue, 4, (some .int))
theorem wm_X4_writeValue : zMv mX4_writeValue 3 := ⟨zTin (List.mem_of_getElem? (i := 442) (by decide +kernel)) rfl, zTin (List.mem_of_getElem? (i := 9) (by decide +kernel)) rfl, by decide +kernel, by decide +kernel⟩
theorem wi_X4_writeValue : zMi mX4_writeValue := ⟨zTin (List.mem_of_getElem? (i := 440) (by decide +kernel)) rfl, zTin (List.mem_of_getElem? (i := 441) (by decide +kernel)) rfl⟩
abbrev mX4_setClaim : zM := (yX4_setClaim, cX4_setClaim, 5, (some .int))
theorem wm_X4_setClaim : zMv mX4_setClaim 3 := ⟨zTin (List.mem_of_getElem? (i := 450) (by decide +kernel)) rfl, zTin (List.mem_of_getElem? (i := 9) (by decide +kernel)) rfl, by decide +kernel, by decide +kernel⟩
theorem wi_X4_setClaim : zMi mX4_setClaim := ⟨zTin (List.mem_of_getElem? (i := 448) (by decide +kernel)) rfl, zTin (List.mem_of_getElem? (i := 449) (by decide +kernel)) rfl⟩
abbrev mX4_grantFirstClaim : zM := (yX4_grantFirstClaim, cX4_grantFirstClaim, 4, (some .int))
theorem wm_X4_grantFirstClaim : zMv mX4_grantFirstClaim 1 := ⟨zTin (List.mem_of_getElem? (i := 472) (by decide +kernel)) rfl, zTin (List.mem_of_getElem? (i := 9) (by decide +kernel)) rfl, by decide +kernel, by decide +kernel⟩
theorem wi_X4_grantFirstClaim : zMi mX4_grantFirstClaim := ⟨zTin (List.mem_of_getElem? (i := 470) (by decide +kernel)) rfl, zTin (List.mem_of_getElem? (i := 471) (by decide +kernel)) rfl⟩
abbrev mX4_changeOwner : zM := (yX4_changeOwner, cX4_changeOwner, 4, (some .int))
theorem wm_X4_changeOwner : zMv mX4_changeOwner 2 := ⟨zTin (List.mem_of_getElem? (i := 481) (by decide +kernel)) rfl, zTin (List.mem_of_getElem? (i := 9) (by decide +kernel)) rfl, by decide +kernel, by decide +kernel⟩
theorem wi_X4_changeOwner : zMi mX4_changeOwner := ⟨zTin (List.mem_of_getElem? (i := 479) (by decide +kernel)) rfl, zTin (List.mem_of_getElem? (i := 480) (by decide +kernel)) rfl⟩
abbrev mX4_countReaders : zM := (yX4_countReaders, cX4_countReaders, 4, (some .int))
theorem wm_X4_countReaders : zMv mX4_countReaders 1 := ⟨zTin (List.mem_of_getElem? (i := 211) (by decide +kernel)) rfl, zTin (List.mem_of_getElem? (i := 9) (by decide +kernel)) rfl, by decide +kernel, by decide +kernel⟩
theorem wi_X4_countReaders : zMi mX4_countReaders := ⟨zTin (List.mem_of_getElem? (i := 209) (by decide +kernel)) rfl, zTin (List.mem_of_getElem? (i := 210) (by decide +kernel)) rfl⟩
abbrev mX4_holderOfWhole : zM := (yX4_holderOfWhole, cX4_holderOfWhole, 3, (some .int))
theorem wm_X4_holderOfWhole : zMv mX4_holderOfWhole 1 := ⟨zTin (List.mem_of_getElem? (i := 231) (by decide +kernel)) rfl, zTin (List.mem_of_getElem? (i := 9) (by decide +kernel)) rfl, by decide +kernel, by decide +kernel⟩
theorem wi_X4_holderOfWhole : zMi mX4_holderOfWhole := ⟨zTin (List.mem_of_getElem? (i := 229) (by decide +kernel)) rfl, zTin (List.mem_of_getElem? (i := 230) (by decide +kernel)) rfl⟩
abbrev mX4_countWholeCells : zM := (yX4_countWholeCells, cX4_countWholeCells, 3, (some .int))
theorem wm_X4_countWholeCells : zMv mX4_countWholeCells 0 := ⟨zTin (List.mem_of_getElem? (i := 348) (by decide +kernel)) rfl, zTin (List.mem_of_getElem? (i := 9) (by decide +kernel)) rfl, by decide +kernel, by decide +kernel⟩
theorem wi_X4_countWholeCells : zMi mX4_countWholeCells := ⟨zTin (List.mem_of_getElem? (i := 346) (by decide +kernel)) rfl, zTin (List.mem_of_getElem? (i := 347) (by decide +kernel)) rfl⟩
abbrev mX4_countHolding : zM := (yX4_countHolding, cX4_countHolding, 2, (some .int))
theorem wm_X4_countHolding : zMv mX4_countHolding 1 := ⟨zTin (List.mem_of_getElem? (i := 235) (by decide +kernel)) rfl, zTin (List.mem_of_getElem? (i := 9) (by decide +kernel)) rfl, by decide +kernel, by decide +kernel⟩
theorem wi_X4_countHolding : zMi mX4_countHolding := ⟨zTin (List.mem_of_getElem? (i := 233) (by decide +kernel)) rfl, zTin (List.mem_of_getElem? (i := 234) (by decide +kernel)) rfl⟩
abbrev mX4_countAllHolding : zM := (yX4_countAllHolding, cX4_countAllHolding, 3, (some .int))
theorem wm_X4_countAllHolding : zMv mX4_countAllHolding 0 := ⟨zTin (List.mem_of_getElem? (i := 357) (by decide +kernel)) rfl, zTin (List.mem_of_getElem? (i := 9) (by decide +kernel)) rfl, by decide +kernel, by decide +kernel⟩
theorem wi_X4_countAllHolding : zMi mX4_countAllHolding := ⟨zTin (List.mem_of_getElem? (i := 355) (by decide +kernel)) rfl, zTin (List.mem_of_getElem? (i := 356) (by decide +kernel)) rfl⟩
abbrev mX5_size : zM := (yX5_size, cX5_size, 1, (some .int))
theorem wm_X5_size : zMv mX5_size 0 := ⟨zTin (List.mem_of_getElem? (i := 366) (by decide +kernel)) rfl, zTin (List.mem_of_getElem? (i := 14) (by decide +kernel)) rfl, by decide +kernel, by decide +kernel⟩
theorem wi_X5_size : zMi mX5_size := ⟨zTin (List.mem_of_getElem? (i := 364) (by decide +kernel)) rfl, zTin (List.mem_of_getElem? (i := 365) (by decide +kernel)) rfl⟩
abbrev mX6_lend : zM := (yX6_lend, cX6_lend, 5, (some .int))
theorem wm_X6_lend : zMv mX6_lend 4 := ⟨zTin (List.mem_of_getElem? (i := 412) (by decide +kernel)) rfl, zTin (List.mem_of_getElem? (i := 8) (by decide +kernel)) rfl, by decide +kernel, by decide +kernel⟩
theorem wi_X6_lend : zMi mX6_lend := ⟨zTin (List.mem_of_getElem? (i := 410) (by decide +kernel)) rfl, zTin (List.mem_of_getElem? (i := 411) (by decide +kernel)) rfl⟩
abbrev mX6_half : zM := (yX6_half, cX6_half, 4, (some .int))
theorem wm_X6_half : zMv mX6_half 3 := ⟨zTin (List.mem_of_getElem? (i := 370) (by decide +kernel)) rfl, zTin (List.mem_of_getElem? (i := 8) (by decide +kernel)) rfl, by decide +kernel, by decide +kernel⟩
theorem wi_X6_half : zMi mX6_half := ⟨zTin (List.mem_of_getElem? (i := 368) (by decide +kernel)) rfl, zTin (List.mem_of_getElem? (i := 369) (by decide +kernel)) rfl⟩
abbrev mX6_giveBack : zM := (yX6_giveBack, cX6_giveBack, 2, (some .int))
theorem wm_X6_giveBack : zMv mX6_giveBack 1 := ⟨zTin (List.mem_of_getElem? (i := 417) (by decide +kernel)) rfl, zTin (List.mem_of_getElem? (i := 8) (by decide +kernel)) rfl, by decide +kernel, by decide +kernel⟩
theorem wi_X6_giveBack : zMi mX6_giveBack := ⟨zTin (List.mem_of_getElem? (i := 415) (by decide +kernel)) rfl, zTin (List.mem_of_getElem? (i := 416) (by decide +kernel)) rfl⟩
abbrev mX6_gather : zM := (yX6_gather, cX6_gather, 3, (some .int))
theorem wm_X6_gather : zMv mX6_gather 2 := ⟨zTin (List.mem_of_getElem? (i := 422) (by decide +kernel)) rfl, zTin (List.mem_of_getElem? (i := 8) (by decide +kernel)) rfl, by decide +kernel, by decide +kernel⟩
theorem wi_X6_gather : zMi mX6_gather := ⟨zTin (List.mem_of_getElem? (i := 420) (by decide +kernel)) rfl, zTin (List.mem_of_getElem? (i := 421) (by decide +kernel)) rfl⟩
abbrev mX6_hold : zM := (yX6_hold, cX6_hold, 4, (some .int))
theorem wm_X6_hold : zMv mX6_hold 3 := ⟨zTin (List.mem_of_getElem? (i := 430) (by decide +kernel)) rfl, zTin (List.mem_of_getElem? (i := 8) (by decide +kernel)) rfl, by decide +kernel, by decide +kernel⟩
theorem wi_X6_hold : zMi mX6_hold := ⟨zTin (List.mem_of_getElem? (i := 428) (by decide +kernel)) rfl, zTin (List.mem_of_getElem? (i := 429) (by decide +kernel)) rfl⟩
abbrev mX6_write : zM := (yX6_write, cX6_write, 4, (some .int))
theorem wm_X6_write : zMv mX6_write 3 := ⟨zTin (List.mem_of_getElem? (i := 438) (by decide +kernel)) rfl, zTin (List.mem_of_getElem? (i := 8) (by decide +kernel)) rfl, by decide +kernel, by decide +kernel⟩
theorem wi_X6_write : zMi mX6_write := ⟨zTin (List.mem_of_getElem? (i := 436) (by decide +kernel)) rfl, zTin (List.mem_of_getElem? (i := 437) (by decide +kernel)) rfl⟩
abbrev mX6_read : zM := (yX6_read, cX6_read, 3, (some .int))
theorem wm_X6_read : zMv mX6_read 2 := ⟨zTin (List.mem_of_getElem? (i := 495) (by decide +kernel)) rfl, zTin (List.mem_of_getElem? (i := 8) (by decide +kernel)) rfl, by decide +kernel, by decide +kernel⟩
theorem wi_X6_read : zMi mX6_read := ⟨zTin (List.mem_of_getElem? (i := 493) (by decide +kernel)) rfl, zTin (List.mem_of_getElem? (i := 494) (by decide +kernel)) rfl⟩
abbrev mX6_claim : zM := (yX6_claim, cX6_claim, 4, (some .int))
theorem wm_X6_claim : zMv mX6_claim 3 := ⟨zTin (List.mem_of_getElem? (i := 446) (by decide +kernel)) rfl, zTin (List.mem_of_getElem? (i := 8) (by decide +kernel)) rfl, by decide +kernel, by decide +kernel⟩
theorem wi_X6_claim : zMi mX6_claim := ⟨zTin (List.mem_of_getElem? (i := 444) (by decide +kernel)) rfl, zTin (List.mem_of_getElem? (i := 445) (by decide +kernel)) rfl⟩
abbrev mX6_serve : zM := (yX6_serve, cX6_serve, 2, (some .int))
theorem wm_X6_serve : zMv mX6_serve 1 := ⟨zTin (List.mem_of_getElem? (i := 464) (by decide +kernel)) rfl, zTin (List.mem_of_getElem? (i := 8) (by decide +kernel)) rfl, by decide +kernel, by decide +kernel⟩
theorem wi_X6_serve : zMi mX6_serve := ⟨zTin (List.mem_of_getElem? (i := 462) (by decide +kernel)) rfl, zTin (List.mem_of_getElem? (i := 463) (by decide +kernel)) rfl⟩
abbrev mX6_handOver : zM := (yX6_handOver, cX6_handOver, 3, (some .int))
theorem wm_X6_handOver : zMv mX6_handOver 2 := ⟨zTin (List.mem_of_getElem? (i := 477) (by decide +kernel)) rfl, zTin (List.mem_of_getElem? (i := 8) (by decide +kernel)) rfl, by decide +kernel, by decide +kernel⟩
theorem wi_X6_handOver : zMi mX6_handOver := ⟨zTin (List.mem_of_getElem? (i := 475) (by decide +kernel)) rfl, zTin (List.mem_of_getElem? (i := 476) (by decide +kernel)) rfl⟩
abbrev mX6_undo : zM := (yX6_undo, cX6_undo, 2, (some .int))
theorem wm_X6_undo : zMv mX6_undo 0 := ⟨zTin (List.mem_of_getElem? (i := 524) (by decide +kernel)) rfl, zTin (List.mem_of_getElem? (i := 8) (by decide +kernel)) rfl, by decide +kernel, by decide +kernel⟩
theorem wi_X6_undo : zMi mX6_undo := ⟨zTin (List.mem_of_getElem? (i := 522) (by decide +kernel)) rfl, zTin (List.mem_of_getElem? (i := 523) (by decide +kernel)) rfl⟩
abbrev mX6_cell : zM := (yX6_cell, cX6_cell, 3, (some .int))
theorem wm_X6_cell : zMv mX6_cell 2 := ⟨zTin (List.mem_of_getElem? (i := 204) (by decide +kernel)) rfl, zTin (List.mem_of_getElem? (i := 8) (by decide +kernel)) rfl, by decide +kernel, by decide +kernel⟩
theorem wi_X6_cell : zMi mX6_cell := ⟨zTin (List.mem_of_getElem? (i := 202) (by decide +kernel)) rfl, zTin (List.mem_of_getElem? (i := 203) (by decide +kernel)) rfl⟩
abbrev mX6_part : zM := (yX6_part, cX6_part, 4, (some .int))
theorem wm_X6_part : zMv mX6_part 3 := ⟨zTin (List.mem_of_getElem? (i := 245) (by decide +kernel)) rfl, zTin (List.mem_of_getElem? (i := 8) (by decide +kernel)) rfl, by decide +kernel, by decide +kernel⟩
theorem wi_X6_part : zMi mX6_part := ⟨zTin (List.mem_of_getElem? (i := 243) (by decide +kernel)) rfl, zTin (List.mem_of_getElem? (i := 244) (by decide +kernel)) rfl⟩
abbrev mX6_loan : zM := (yX6_loan, cX6_loan, 4, (some .int))
theorem wm_X6_loan : zMv mX6_loan 2 := ⟨zTin (List.mem_of_getElem? (i := 489) (by decide +kernel)) rfl, zTin (List.mem_of_getElem? (i := 8) (by decide +kernel)) rfl, by decide +kernel, by decide +kernel⟩
theorem wi_X6_loan : zMi mX6_loan := ⟨zTin (List.mem_of_getElem? (i := 487) (by decide +kernel)) rfl, zTin (List.mem_of_getElem? (i := 488) (by decide +kernel)) rfl⟩
abbrev mX6_reason : zM := (yX6_reason, cX6_reason, 3, (some .int))
theorem wm_X6_reason : zMv mX6_reason 2 := ⟨zTin (List.mem_of_getElem? (i := 499) (by decide +kernel)) rfl, zTin (List.mem_of_getElem? (i := 8) (by decide +kernel)) rfl, by decide +kernel, by decide +kernel⟩
theorem wi_X6_reason : zMi mX6_reason := ⟨zTin (List.mem_of_getElem? (i := 497) (by decide +kernel)) rfl, zTin (List.mem_of_getElem? (i := 498) (by decide +kernel)) rfl⟩
abbrev mX6_chain : zM := (yX6_chain, cX6_chain, 2, (some .int))
theorem wm_X6_chain : zMv mX6_chain 1 := ⟨zTin (List.mem_of_getElem? (i := 503) (by decide +kernel)) rfl, zTin (List.mem_of_getElem? (i := 8) (by decide +kernel)) rfl, by decide +kernel, by decide +kernel⟩
theorem wi_X6_chain : zMi mX6_chain := ⟨zTin (List.mem_of_getElem? (i := 501) (by decide +kernel)) rfl, zTin (List.mem_of_getElem? (i := 502) (by decide +kernel)) rfl⟩
abbrev mX6_count : zM := (yX6_count, cX6_count, 2, (some .int))
theorem wm_X6_count : zMv mX6_count 1 := ⟨zTin (List.mem_of_getElem? (i := 344) (by decide +kernel)) rfl, zTin (List.mem_of_getElem? (i := 8) (by decide +kernel)) rfl, by decide +kernel, by decide +kernel⟩
theorem wi_X6_count : zMi mX6_count := ⟨zTin (List.mem_of_getElem? (i := 342) (by decide +kernel)) rfl, zTin (List.mem_of_getElem? (i := 343) (by decide +kernel)) rfl⟩
abbrev mX6_close : zM := (yX6_close, cX6_close, 2, (some .int))
theorem wm_X6_close : zMv mX6_close 1 := ⟨zTin (List.mem_of_getElem? (i := 397) (by decide +kernel)) rfl, zTin (List.mem_of_getElem? (i := 8) (by decide +kernel)) rfl, by decide +kernel, by decide +kernel⟩
theorem wi_X6_close : zMi mX6_close := ⟨zTin (List.mem_of_getElem? (i := 396) (by decide +kernel)) rfl, zTin (List.mem_of_getElem? (i := 3) (by decide +kernel)) rfl⟩
abbrev mX6_gatherCell : zM := (yX6_gatherCell, cX6_gatherCell, 4, (some .int))
theorem wm_X6_gatherCell : zMv mX6_gatherCell 2 := ⟨zTin (List.mem_of_getElem? (i := 426) (by decide +kernel)) rfl, zTin (List.mem_of_getElem? (i := 8) (by decide +kernel)) rfl, by decide +kernel, by decide +kernel⟩
theorem wi_X6_gatherCell : zMi mX6_gatherCell := ⟨zTin (List.mem_of_getElem? (i := 425) (by decide +kernel)) rfl, zTin (List.mem_of_getElem? (i := 4) (by decide +kernel)) rfl⟩
abbrev mX6_heldAfterGathering : zM := (yX6_heldAfterGathering, cX6_heldAfterGathering, 3, (some .int))
theorem wm_X6_heldAfterGathering : zMv mX6_heldAfterGathering 2 := ⟨zTin (List.mem_of_getElem? (i := 273) (by decide +kernel)) rfl, zTin (List.mem_of_getElem? (i := 8) (by decide +kernel)) rfl, by decide +kernel, by decide +kernel⟩
theorem wi_X6_heldAfterGathering : zMi mX6_heldAfterGathering := ⟨zTin (List.mem_of_getElem? (i := 272) (by decide +kernel)) rfl, zTin (List.mem_of_getElem? (i := 1) (by decide +kernel)) rfl⟩
abbrev mX6_serveClaims : zM := (yX6_serveClaims, cX6_serveClaims, 4, (some .int))
theorem wm_X6_serveClaims : zMv mX6_serveClaims 1 := ⟨zTin (List.mem_of_getElem? (i := 468) (by decide +kernel)) rfl, zTin (List.mem_of_getElem? (i := 8) (by decide +kernel)) rfl, by decide +kernel, by decide +kernel⟩
theorem wi_X6_serveClaims : zMi mX6_serveClaims := ⟨zTin (List.mem_of_getElem? (i := 467) (by decide +kernel)) rfl, zTin (List.mem_of_getElem? (i := 5) (by decide +kernel)) rfl⟩
abbrev mX6_isAgent : zM := (yX6_isAgent, cX6_isAgent, 1, (some .boolean))
theorem wm_X6_isAgent : zMv mX6_isAgent 1 := ⟨zTin (List.mem_of_getElem? (i := 248) (by decide +kernel)) rfl, zTin (List.mem_of_getElem? (i := 8) (by decide +kernel)) rfl, by decide +kernel, by decide +kernel⟩
theorem wt_X6_isAgent : Cond.static yX6_isAgent ∈ zT := zTin (List.mem_of_getElem? (i := 247) (by decide +kernel)) rfl
abbrev mX6_isCell : zM := (yX6_isCell, cX6_isCell, 1, (some .boolean))
theorem wm_X6_isCell : zMv mX6_isCell 1 := ⟨zTin (List.mem_of_getElem? (i := 207) (by decide +kernel)) rfl, zTin (List.mem_of_getElem? (i := 8) (by decide +kernel)) rfl, by decide +kernel, by decide +kernel⟩
theorem wt_X6_isCell : Cond.static yX6_isCell ∈ zT := zTin (List.mem_of_getElem? (i := 206) (by decide +kernel)) rfl
abbrev mJ6_bitCount_0f7a4 : zM := (yJ6_bitCount_0f7a4, cJ6_bitCount_0f7a4, 1, (some .int))
theorem wm_J6_bitCount_0f7a4 : zMv mJ6_bitCount_0f7a4 1 := ⟨zTin (List.mem_of_getElem? (i := 238) (by decide +kernel)) rfl, zTin (List.mem_of_getElem? (i := 15) (by decide +kernel)) rfl, by decide +kernel, by decide +kernel⟩
theorem wt_J6_bitCount_0f7a4 : Cond.static yJ6_bitCount_0f7a4 ∈ zT := zTin (List.mem_of_getElem? (i := 237) (by decide +kernel)) rfl
abbrev mJ9_max_7cf53 : zM := (yJ9_max_7cf53, cJ9_max_7cf53, 2, (some .int))
theorem wm_J9_max_7cf53 : zMv mJ9_max_7cf53 2 := ⟨zTin (List.mem_of_getElem? (i := 517) (by decide +kernel)) rfl, zTin (List.mem_of_getElem? (i := 17) (by decide +kernel)) rfl, by decide +kernel, by decide +kernel⟩
theorem wt_J9_max_7cf53 : Cond.static yJ9_max_7cf53 ∈ zT := zTin (List.mem_of_getElem? (i := 516) (by decide +kernel)) rfl
abbrev mJ9_min_7cf53 : zM := (yJ9_min_7cf53, cJ9_min_7cf53, 2, (some .int))
theorem wm_J9_min_7cf53 : zMv mJ9_min_7cf53 2 := ⟨zTin (List.mem_of_getElem? (i := 408) (by decide +kernel)) rfl, zTin (List.mem_of_getElem? (i := 17) (by decide +kernel)) rfl, by decide +kernel, by decide +kernel⟩
theorem wt_J9_min_7cf53 : Cond.static yJ9_min_7cf53 ∈ zT := zTin (List.mem_of_getElem? (i := 407) (by decide +kernel)) rfl
abbrev mJ7_fill_53178 : zM := (yJ7_fill_53178, cJ7_fill_53178, 4, none)
theorem wm_J7_fill_53178 : zMv mJ7_fill_53178 2 := ⟨zTin (List.mem_of_getElem? (i := 297) (by decide +kernel)) rfl, zTin (List.mem_of_getElem? (i := 18) (by decide +kernel)) rfl, by decide +kernel, by decide +kernel⟩
theorem wt_J7_fill_53178 : Cond.static yJ7_fill_53178 ∈ zT := zTin (List.mem_of_getElem? (i := 296) (by decide +kernel)) rfl
abbrev mL_cell : zM := (yL_cell, cL_cell, 2, (some .int))
theorem wm_L_cell : zMv mL_cell 2 := ⟨zTin (List.mem_of_getElem? (i := 333) (by decide +kernel)) rfl, zTin (List.mem_of_getElem? (i := 7) (by decide +kernel)) rfl, by decide +kernel, by decide +kernel⟩
theorem wt_L_cell : Cond.static yL_cell ∈ zT := zTin (List.mem_of_getElem? (i := 332) (by decide +kernel)) rfl
abbrev mL_low : zM := (yL_low, cL_low, 2, (some .int))
theorem wm_L_low : zMv mL_low 2 := ⟨zTin (List.mem_of_getElem? (i := 336) (by decide +kernel)) rfl, zTin (List.mem_of_getElem? (i := 7) (by decide +kernel)) rfl, by decide +kernel, by decide +kernel⟩
theorem wt_L_low : Cond.static yL_low ∈ zT := zTin (List.mem_of_getElem? (i := 335) (by decide +kernel)) rfl
abbrev mL_does : zM := (yL_does, cL_does, 6, (some .int))
theorem wm_L_does : zMv mL_does 2 := ⟨zTin (List.mem_of_getElem? (i := 340) (by decide +kernel)) rfl, zTin (List.mem_of_getElem? (i := 7) (by decide +kernel)) rfl, by decide +kernel, by decide +kernel⟩
theorem wt_L_does : Cond.static yL_does ∈ zT := zTin (List.mem_of_getElem? (i := 339) (by decide +kernel)) rfl
abbrev mL_isCellSo : zM := (yL_isCellSo, cL_isCellSo, 15, (some .boolean))
theorem wm_L_isCellSo : zMv mL_isCellSo 2 := ⟨zTin (List.mem_of_getElem? (i := 485) (by decide +kernel)) rfl, zTin (List.mem_of_getElem? (i := 7) (by decide +kernel)) rfl, by decide +kernel, by decide +kernel⟩
theorem wt_L_isCellSo : Cond.static yL_isCellSo ∈ zT := zTin (List.mem_of_getElem? (i := 484) (by decide +kernel)) rfl
abbrev mL_isGatherSo : zM := (yL_isGatherSo, cL_isGatherSo, 11, (some .boolean))
theorem wm_L_isGatherSo : zMv mL_isGatherSo 3 := ⟨zTin (List.mem_of_getElem? (i := 520) (by decide +kernel)) rfl, zTin (List.mem_of_getElem? (i := 7) (by decide +kernel)) rfl, by decide +kernel, by decide +kernel⟩
theorem wt_L_isGatherSo : Cond.static yL_isGatherSo ∈ zT := zTin (List.mem_of_getElem? (i := 519) (by decide +kernel)) rfl
