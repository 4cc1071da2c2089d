/-! words of the constructors and of the law -/
def gNe (U : State) : Prop := va_Nw (.methodLinkNest RX4 29 yX0_init "LentParts") U ∧ va_Nw (.methodLinkNest RX4 36 yX3_init "LentParts") U ∧ va_Nw (.methodLinkNest RX6 31 yX1_init "LentParts") U ∧ va_Nw (.methodLinkNest RX6 38 yX5_init "LentParts") U ∧ va_AO "LentParts$State" U
abbrev mX0_init : zM := (yX0_init, cX0_init, 1, none)
theorem wm_X0_init : zMv mX0_init 0 := ⟨zTin (List.mem_of_getElem? (i := 82) (by decide +kernel)) rfl, zTin (List.mem_of_getElem? (i := 54) (by decide +kernel)) rfl, by decide +kernel, by decide +kernel⟩
theorem wii_X0 : Cond.instanceMethod yX0_init ∈ zT := zTin (List.mem_of_getElem? (i := 81) (by decide +kernel)) rfl
theorem wn_X0 : Cond.instantiable RX0 2 ∈ zT := zTin (List.mem_of_getElem? (i := 79) (by decide +kernel)) rfl
theorem wz_X0 : Cond.initialized RX0 ∈ zT := zTin (List.mem_of_getElem? (i := 54) (by decide +kernel)) rfl
abbrev mX1_init : zM := (yX1_init, cX1_init, 1, none)
theorem wm_X1_init : zMv mX1_init 0 := ⟨zTin (List.mem_of_getElem? (i := 193) (by decide +kernel)) rfl, zTin (List.mem_of_getElem? (i := 57) (by decide +kernel)) rfl, by decide +kernel, by decide +kernel⟩
theorem wii_X1 : Cond.instanceMethod yX1_init ∈ zT := zTin (List.mem_of_getElem? (i := 192) (by decide +kernel)) rfl
theorem wn_X1 : Cond.instantiable RX1 1 ∈ zT := zTin (List.mem_of_getElem? (i := 190) (by decide +kernel)) rfl
theorem wz_X1 : Cond.initialized RX1 ∈ zT := zTin (List.mem_of_getElem? (i := 57) (by decide +kernel)) rfl
abbrev mX2_init : zM := (yX2_init, cX2_init, 2, none)
theorem wm_X2_init : zMv mX2_init 0 := ⟨zTin (List.mem_of_getElem? (i := 174) (by decide +kernel)) rfl, zTin (List.mem_of_getElem? (i := 56) (by decide +kernel)) rfl, by decide +kernel, by decide +kernel⟩
theorem wii_X2 : Cond.instanceMethod yX2_init ∈ zT := zTin (List.mem_of_getElem? (i := 173) (by decide +kernel)) rfl
theorem wn_X2 : Cond.instantiable RX2 3 ∈ zT := zTin (List.mem_of_getElem? (i := 171) (by decide +kernel)) rfl
theorem wz_X2 : Cond.initialized RX2 ∈ zT := zTin (List.mem_of_getElem? (i := 56) (by decide +kernel)) rfl
abbrev mX3_init : zM := (yX3_init, cX3_init, 1, none)
theorem wm_X3_init : zMv mX3_init 0 := ⟨zTin (List.mem_of_getElem? (i := 96) (by decide +kernel)) rfl, zTin (List.mem_of_getElem? (i := 55) (by decide +kernel)) rfl, by decide +kernel, by decide +kernel⟩
theorem wii_X3 : Cond.instanceMethod yX3_init ∈ zT := zTin (List.mem_of_getElem? (i := 95) (by decide +kernel)) rfl
theorem wn_X3 : Cond.instantiable RX3 8 ∈ zT := zTin (List.mem_of_getElem? (i := 93) (by decide +kernel)) rfl
theorem wz_X3 : Cond.initialized RX3 ∈ zT := zTin (List.mem_of_getElem? (i := 55) (by decide +kernel)) rfl
abbrev mX4_init : zM := (yX4_init, cX4_init, 2, none)
theorem wm_X4_init : zMv mX4_init 0 := ⟨zTin (List.mem_of_getElem? (i := 76) (by decide +kernel)) rfl, zTin (List.mem_of_getElem? (i := 53) (by decide +kernel)) rfl, by decide +kernel, by decide +kernel⟩
theorem wii_X4 : Cond.instanceMethod yX4_init ∈ zT := zTin (List.mem_of_getElem? (i := 75) (by decide +kernel)) rfl
theorem wn_X4 : Cond.instantiable RX4 8 ∈ zT := zTin (List.mem_of_getElem? (i := 73) (by decide +kernel)) rfl
theorem wz_X4 : Cond.initialized RX4 ∈ zT := zTin (List.mem_of_getElem? (i := 53) (by decide +kernel)) rfl
abbrev mX5_init : zM := (yX5_init, cX5_init, 1, none)
theorem wm_X5_init : zMv mX5_init 0 := ⟨zTin (List.mem_of_getElem? (i := 203) (by decide +kernel)) rfl, zTin (List.mem_of_getElem? (i := 58) (by decide +kernel)) rfl, by decide +kernel, by decide +kernel⟩
theorem wii_X5 : Cond.instanceMethod yX5_init ∈ zT := zTin (List.mem_of_getElem? (i := 202) (by decide +kernel)) rfl
theorem wn_X5 : Cond.instantiable RX5 5 ∈ zT := zTin (List.mem_of_getElem? (i := 200) (by decide +kernel)) rfl
theorem wz_X5 : Cond.initialized RX5 ∈ zT := zTin (List.mem_of_getElem? (i := 58) (by decide +kernel)) rfl
abbrev mX6_init : zM := (yX6_init, cX6_init, 1, none)
theorem wm_X6_init : zMv mX6_init 0 := ⟨zTin (List.mem_of_getElem? (i := 68) (by decide +kernel)) rfl, zTin (List.mem_of_getElem? (i := 52) (by decide +kernel)) rfl, by decide +kernel, by decide +kernel⟩
theorem wii_X6 : Cond.instanceMethod yX6_init ∈ zT := zTin (List.mem_of_getElem? (i := 67) (by decide +kernel)) rfl
theorem wn_X6 : Cond.instantiable RX6 10 ∈ zT := zTin (List.mem_of_getElem? (i := 65) (by decide +kernel)) rfl
theorem wz_X6 : Cond.initialized RX6 ∈ zT := zTin (List.mem_of_getElem? (i := 52) (by decide +kernel)) rfl
abbrev mX7_init : zM := (yX7_init, cX7_init, 2, none)
theorem wm_X7_init : zMv mX7_init 0 := ⟨zTin (List.mem_of_getElem? (i := 658) (by decide +kernel)) rfl, zTin (List.mem_of_getElem? (i := 59) (by decide +kernel)) rfl, by decide +kernel, by decide +kernel⟩
theorem wii_X7 : Cond.instanceMethod yX7_init ∈ zT := zTin (List.mem_of_getElem? (i := 657) (by decide +kernel)) rfl
theorem wn_X7 : Cond.instantiable RX7 20 ∈ zT := zTin (List.mem_of_getElem? (i := 655) (by decide +kernel)) rfl
theorem wz_X7 : Cond.initialized RX7 ∈ zT := zTin (List.mem_of_getElem? (i := 59) (by decide +kernel)) rfl
theorem wk_L_7 : Cond.classLink "LentPartsLaw" 7 RX6 ∈ zT := zTin (List.mem_of_getElem? (i := 64) (by decide +kernel)) rfl
theorem wk_X6_7 : Cond.classLink RX6 7 RX4 ∈ zT := zTin (List.mem_of_getElem? (i := 72) (by decide +kernel)) rfl
theorem wk_X4_27 : Cond.classLink RX4 27 RX0 ∈ zT := zTin (List.mem_of_getElem? (i := 78) (by decide +kernel)) rfl
theorem wk_X4_34 : Cond.classLink RX4 34 RX3 ∈ zT := zTin (List.mem_of_getElem? (i := 92) (by decide +kernel)) rfl
theorem wk_X6_22 : Cond.classLink RX6 22 RX2 ∈ zT := zTin (List.mem_of_getElem? (i := 170) (by decide +kernel)) rfl
theorem wk_X2_11 : Cond.classLink RX2 11 RX4 ∈ zT := zTin (List.mem_of_getElem? (i := 176) (by decide +kernel)) rfl
theorem wk_X6_29 : Cond.classLink RX6 29 RX1 ∈ zT := zTin (List.mem_of_getElem? (i := 189) (by decide +kernel)) rfl
theorem wk_X6_36 : Cond.classLink RX6 36 RX5 ∈ zT := zTin (List.mem_of_getElem? (i := 199) (by decide +kernel)) rfl
theorem wk_L_10 : Cond.classLink "LentPartsLaw" 10 RX7 ∈ zT := zTin (List.mem_of_getElem? (i := 654) (by decide +kernel)) rfl
theorem wl_X6_1 : Cond.methodLink RX6 1 objectInit ∈ zT := zTin (List.mem_of_getElem? (i := 69) (by decide +kernel)) rfl
theorem wl_X6_9 : Cond.methodLink RX6 9 yX4_init ∈ zT := zTin (List.mem_of_getElem? (i := 74) (by decide +kernel)) rfl
theorem wl_X6_24 : Cond.methodLink RX6 24 yX2_init ∈ zT := zTin (List.mem_of_getElem? (i := 172) (by decide +kernel)) rfl
theorem wl_X6_31 : ∀ U, gNe U → va_Nw (.methodLinkNest RX6 31 yX1_init "LentParts") U := fun _ h => h.2.2.1
theorem wl_X6_38 : ∀ U, gNe U → va_Nw (.methodLinkNest RX6 38 yX5_init "LentParts") U := fun _ h => h.2.2.2.1
theorem wl_X0_3 : Cond.methodLink RX0 3 objectInit ∈ zT := zTin (List.mem_of_getElem? (i := 83) (by decide +kernel)) rfl
theorem wl_X1_3 : Cond.methodLink RX1 3 objectInit ∈ zT := zTin (List.mem_of_getElem? (i := 194) (by decide +kernel)) rfl
theorem wl_X2_3 : Cond.methodLink RX2 3 objectInit ∈ zT := zTin (List.mem_of_getElem? (i := 175) (by decide +kernel)) rfl
theorem wl_X2_17 : Cond.methodLink RX2 17 yX4_init ∈ zT := zTin (List.mem_of_getElem? (i := 178) (by decide +kernel)) rfl
theorem wl_X3_3 : Cond.methodLink RX3 3 objectInit ∈ zT := zTin (List.mem_of_getElem? (i := 97) (by decide +kernel)) rfl
theorem wl_X4_3 : Cond.methodLink RX4 3 objectInit ∈ zT := zTin (List.mem_of_getElem? (i := 77) (by decide +kernel)) rfl
theorem wl_X4_29 : ∀ U, gNe U → va_Nw (.methodLinkNest RX4 29 yX0_init "LentParts") U := fun _ h => h.1
theorem wl_X4_36 : ∀ U, gNe U → va_Nw (.methodLinkNest RX4 36 yX3_init "LentParts") U := fun _ h => h.2.1
theorem wl_X5_3 : Cond.methodLink RX5 3 objectInit ∈ zT := zTin (List.mem_of_getElem? (i := 204) (by decide +kernel)) rfl
theorem wl_L_9 : Cond.methodLink "LentPartsLaw" 9 yX6_init ∈ zT := zTin (List.mem_of_getElem? (i := 66) (by decide +kernel)) rfl
theorem wl_L_12 : Cond.methodLink "LentPartsLaw" 12 yX7_init ∈ zT := zTin (List.mem_of_getElem? (i := 656) (by decide +kernel)) rfl
theorem wl_L_13 : Cond.methodLink "LentPartsLaw" 13 yX6_lend ∈ zT := zTin (List.mem_of_getElem? (i := 254) (by decide +kernel)) rfl
theorem wl_L_17 : Cond.methodLink "LentPartsLaw" 17 yX7_lend ∈ zT := zTin (List.mem_of_getElem? (i := 725) (by decide +kernel)) rfl
theorem wl_L_18 : Cond.methodLink "LentPartsLaw" 18 yX6_half ∈ zT := zTin (List.mem_of_getElem? (i := 325) (by decide +kernel)) rfl
theorem wl_L_22 : Cond.methodLink "LentPartsLaw" 22 yX7_half ∈ zT := zTin (List.mem_of_getElem? (i := 760) (by decide +kernel)) rfl
theorem wl_L_23 : Cond.methodLink "LentPartsLaw" 23 yX6_giveBack ∈ zT := zTin (List.mem_of_getElem? (i := 334) (by decide +kernel)) rfl
theorem wl_L_27 : Cond.methodLink "LentPartsLaw" 27 yX7_giveBack ∈ zT := zTin (List.mem_of_getElem? (i := 764) (by decide +kernel)) rfl
theorem wl_L_28 : Cond.methodLink "LentPartsLaw" 28 yX6_gather ∈ zT := zTin (List.mem_of_getElem? (i := 354) (by decide +kernel)) rfl
theorem wl_L_32 : Cond.methodLink "LentPartsLaw" 32 yX7_gather ∈ zT := zTin (List.mem_of_getElem? (i := 784) (by decide +kernel)) rfl
theorem wl_L_33 : Cond.methodLink "LentPartsLaw" 33 yX6_hold ∈ zT := zTin (List.mem_of_getElem? (i := 385) (by decide +kernel)) rfl
theorem wl_L_37 : Cond.methodLink "LentPartsLaw" 37 yX7_hold ∈ zT := zTin (List.mem_of_getElem? (i := 815) (by decide +kernel)) rfl
theorem wl_L_38 : Cond.methodLink "LentPartsLaw" 38 yX6_write ∈ zT := zTin (List.mem_of_getElem? (i := 393) (by decide +kernel)) rfl
theorem wl_L_41 : Cond.methodLink "LentPartsLaw" 41 yX7_write ∈ zT := zTin (List.mem_of_getElem? (i := 819) (by decide +kernel)) rfl
theorem wl_L_42 : Cond.methodLink "LentPartsLaw" 42 yX6_read ∈ zT := zTin (List.mem_of_getElem? (i := 401) (by decide +kernel)) rfl
theorem wl_L_45 : Cond.methodLink "LentPartsLaw" 45 yX7_read ∈ zT := zTin (List.mem_of_getElem? (i := 831) (by decide +kernel)) rfl
theorem wl_L_46 : Cond.methodLink "LentPartsLaw" 46 yX6_claim ∈ zT := zTin (List.mem_of_getElem? (i := 405) (by decide +kernel)) rfl
theorem wl_L_49 : Cond.methodLink "LentPartsLaw" 49 yX7_claim ∈ zT := zTin (List.mem_of_getElem? (i := 835) (by decide +kernel)) rfl
theorem wl_L_50 : Cond.methodLink "LentPartsLaw" 50 yX6_serve ∈ zT := zTin (List.mem_of_getElem? (i := 429) (by decide +kernel)) rfl
theorem wl_L_53 : Cond.methodLink "LentPartsLaw" 53 yX7_serve ∈ zT := zTin (List.mem_of_getElem? (i := 847) (by decide +kernel)) rfl
theorem wl_L_54 : Cond.methodLink "LentPartsLaw" 54 yX6_handOver ∈ zT := zTin (List.mem_of_getElem? (i := 447) (by decide +kernel)) rfl
theorem wl_L_57 : Cond.methodLink "LentPartsLaw" 57 yX7_handOver ∈ zT := zTin (List.mem_of_getElem? (i := 855) (by decide +kernel)) rfl
theorem wl_L_58 : Cond.methodLink "LentPartsLaw" 58 yX6_type ∈ zT := zTin (List.mem_of_getElem? (i := 459) (by decide +kernel)) rfl
theorem wl_L_62 : Cond.methodLink "LentPartsLaw" 62 yX7_type ∈ zT := zTin (List.mem_of_getElem? (i := 863) (by decide +kernel)) rfl
theorem wl_L_63 : Cond.methodLink "LentPartsLaw" 63 yX6_clearText ∈ zT := zTin (List.mem_of_getElem? (i := 467) (by decide +kernel)) rfl
theorem wl_L_67 : Cond.methodLink "LentPartsLaw" 67 yX7_clearText ∈ zT := zTin (List.mem_of_getElem? (i := 867) (by decide +kernel)) rfl
theorem wl_L_68 : Cond.methodLink "LentPartsLaw" 68 yX6_perform ∈ zT := zTin (List.mem_of_getElem? (i := 475) (by decide +kernel)) rfl
theorem wl_L_71 : Cond.methodLink "LentPartsLaw" 71 yX7_perform ∈ zT := zTin (List.mem_of_getElem? (i := 871) (by decide +kernel)) rfl
theorem wl_L_72 : Cond.methodLink "LentPartsLaw" 72 yX6_stop ∈ zT := zTin (List.mem_of_getElem? (i := 535) (by decide +kernel)) rfl
theorem wl_L_75 : Cond.methodLink "LentPartsLaw" 75 yX7_stop ∈ zT := zTin (List.mem_of_getElem? (i := 899) (by decide +kernel)) rfl
theorem wl_L_76 : Cond.methodLink "LentPartsLaw" 76 yX6_undo ∈ zT := zTin (List.mem_of_getElem? (i := 539) (by decide +kernel)) rfl
theorem wl_L_79 : Cond.methodLink "LentPartsLaw" 79 yX7_undo ∈ zT := zTin (List.mem_of_getElem? (i := 903) (by decide +kernel)) rfl
theorem wl_L_80 : Cond.methodLink "LentPartsLaw" 80 yX6_keep ∈ zT := zTin (List.mem_of_getElem? (i := 551) (by decide +kernel)) rfl
theorem wl_L_83 : Cond.methodLink "LentPartsLaw" 83 yX7_keep ∈ zT := zTin (List.mem_of_getElem? (i := 907) (by decide +kernel)) rfl
theorem wl_L_84 : Cond.methodLink "LentPartsLaw" 84 yX6_restore ∈ zT := zTin (List.mem_of_getElem? (i := 555) (by decide +kernel)) rfl
theorem wl_L_87 : Cond.methodLink "LentPartsLaw" 87 yX7_restore ∈ zT := zTin (List.mem_of_getElem? (i := 911) (by decide +kernel)) rfl
theorem wl_L_88 : Cond.methodLink "LentPartsLaw" 88 yX6_cell ∈ zT := zTin (List.mem_of_getElem? (i := 559) (by decide +kernel)) rfl
theorem wl_L_91 : Cond.methodLink "LentPartsLaw" 91 yX7_cell ∈ zT := zTin (List.mem_of_getElem? (i := 915) (by decide +kernel)) rfl
theorem wl_L_92 : Cond.methodLink "LentPartsLaw" 92 yX6_part ∈ zT := zTin (List.mem_of_getElem? (i := 583) (by decide +kernel)) rfl
theorem wl_L_95 : Cond.methodLink "LentPartsLaw" 95 yX7_part ∈ zT := zTin (List.mem_of_getElem? (i := 927) (by decide +kernel)) rfl
theorem wl_L_96 : Cond.methodLink "LentPartsLaw" 96 yX6_loan ∈ zT := zTin (List.mem_of_getElem? (i := 604) (by decide +kernel)) rfl
theorem wl_L_99 : Cond.methodLink "LentPartsLaw" 99 yX7_loan ∈ zT := zTin (List.mem_of_getElem? (i := 939) (by decide +kernel)) rfl
theorem wl_L_100 : Cond.methodLink "LentPartsLaw" 100 yX6_reason ∈ zT := zTin (List.mem_of_getElem? (i := 610) (by decide +kernel)) rfl
theorem wl_L_103 : Cond.methodLink "LentPartsLaw" 103 yX7_reason ∈ zT := zTin (List.mem_of_getElem? (i := 943) (by decide +kernel)) rfl
theorem wl_L_104 : Cond.methodLink "LentPartsLaw" 104 yX6_chain ∈ zT := zTin (List.mem_of_getElem? (i := 614) (by decide +kernel)) rfl
theorem wl_L_107 : Cond.methodLink "LentPartsLaw" 107 yX7_chain ∈ zT := zTin (List.mem_of_getElem? (i := 947) (by decide +kernel)) rfl
theorem wl_L_108 : Cond.methodLink "LentPartsLaw" 108 yX6_count ∈ zT := zTin (List.mem_of_getElem? (i := 632) (by decide +kernel)) rfl
theorem wl_L_111 : Cond.methodLink "LentPartsLaw" 111 yX7_count ∈ zT := zTin (List.mem_of_getElem? (i := 951) (by decide +kernel)) rfl
theorem wl_X7_1 : Cond.methodLink RX7 1 objectInit ∈ zT := zTin (List.mem_of_getElem? (i := 659) (by decide +kernel)) rfl
theorem wo_inst : Cond.instanceMethod objectInit ∈ zT := zTin (List.mem_of_getElem? (i := 70) (by decide +kernel)) rfl
theorem wo_code : Cond.code objectInit ⟨#[0xb1]⟩ 1 none ∈ zT := zTin (List.mem_of_getElem? (i := 71) (by decide +kernel)) rfl
theorem wy_int : Cond.arrayClass .int ∈ zT := zTin (List.mem_of_getElem? (i := 91) (by decide +kernel)) rfl
theorem wy_boolean : Cond.arrayClass .boolean ∈ zT := zTin (List.mem_of_getElem? (i := 724) (by decide +kernel)) rfl
