/-! words of the constructors and of the law -/
def gNe (U : State) : Prop := va_Nw (.methodLinkNest RX4 29 yX0_init "LentParts") U ∧ va_Nw (.methodLinkNest RX4 36 yX3_init "LentParts") U ∧ va_Nw (.methodLinkNest RX6 31 yX1_init "LentParts") U ∧ va_Nw (.methodLinkNest RX6 38 yX5_init "LentParts") U ∧ va_AO "LentParts$State" U
abbrev mX0_init : zM := (yX0_init, cX0_init, 1, none)
theorem wm_X0_init : zMv mX0_init 0 := ⟨zTin (List.mem_of_getElem? (i := 37) (by decide +kernel)) rfl, zTin (List.mem_of_getElem? (i := 10) (by decide +kernel)) rfl, by decide +kernel, by decide +kernel⟩
theorem wii_X0 : Cond.instanceMethod yX0_init ∈ zT := zTin (List.mem_of_getElem? (i := 36) (by decide +kernel)) rfl
theorem wn_X0 : Cond.instantiable RX0 2 ∈ zT := zTin (List.mem_of_getElem? (i := 34) (by decide +kernel)) rfl
theorem wz_X0 : Cond.initialized RX0 ∈ zT := zTin (List.mem_of_getElem? (i := 10) (by decide +kernel)) rfl
abbrev mX1_init : zM := (yX1_init, cX1_init, 1, none)
theorem wm_X1_init : zMv mX1_init 0 := ⟨zTin (List.mem_of_getElem? (i := 148) (by decide +kernel)) rfl, zTin (List.mem_of_getElem? (i := 13) (by decide +kernel)) rfl, by decide +kernel, by decide +kernel⟩
theorem wii_X1 : Cond.instanceMethod yX1_init ∈ zT := zTin (List.mem_of_getElem? (i := 147) (by decide +kernel)) rfl
theorem wn_X1 : Cond.instantiable RX1 1 ∈ zT := zTin (List.mem_of_getElem? (i := 145) (by decide +kernel)) rfl
theorem wz_X1 : Cond.initialized RX1 ∈ zT := zTin (List.mem_of_getElem? (i := 13) (by decide +kernel)) rfl
abbrev mX2_init : zM := (yX2_init, cX2_init, 2, none)
theorem wm_X2_init : zMv mX2_init 0 := ⟨zTin (List.mem_of_getElem? (i := 129) (by decide +kernel)) rfl, zTin (List.mem_of_getElem? (i := 12) (by decide +kernel)) rfl, by decide +kernel, by decide +kernel⟩
theorem wii_X2 : Cond.instanceMethod yX2_init ∈ zT := zTin (List.mem_of_getElem? (i := 128) (by decide +kernel)) rfl
theorem wn_X2 : Cond.instantiable RX2 3 ∈ zT := zTin (List.mem_of_getElem? (i := 126) (by decide +kernel)) rfl
theorem wz_X2 : Cond.initialized RX2 ∈ zT := zTin (List.mem_of_getElem? (i := 12) (by decide +kernel)) rfl
abbrev mX3_init : zM := (yX3_init, cX3_init, 1, none)
theorem wm_X3_init : zMv mX3_init 0 := ⟨zTin (List.mem_of_getElem? (i := 51) (by decide +kernel)) rfl, zTin (List.mem_of_getElem? (i := 11) (by decide +kernel)) rfl, by decide +kernel, by decide +kernel⟩
theorem wii_X3 : Cond.instanceMethod yX3_init ∈ zT := zTin (List.mem_of_getElem? (i := 50) (by decide +kernel)) rfl
theorem wn_X3 : Cond.instantiable RX3 8 ∈ zT := zTin (List.mem_of_getElem? (i := 48) (by decide +kernel)) rfl
theorem wz_X3 : Cond.initialized RX3 ∈ zT := zTin (List.mem_of_getElem? (i := 11) (by decide +kernel)) rfl
abbrev mX4_init : zM := (yX4_init, cX4_init, 2, none)
theorem wm_X4_init : zMv mX4_init 0 := ⟨zTin (List.mem_of_getElem? (i := 31) (by decide +kernel)) rfl, zTin (List.mem_of_getElem? (i := 9) (by decide +kernel)) rfl, by decide +kernel, by decide +kernel⟩
theorem wii_X4 : Cond.instanceMethod yX4_init ∈ zT := zTin (List.mem_of_getElem? (i := 30) (by decide +kernel)) rfl
theorem wn_X4 : Cond.instantiable RX4 8 ∈ zT := zTin (List.mem_of_getElem? (i := 28) (by decide +kernel)) rfl
theorem wz_X4 : Cond.initialized RX4 ∈ zT := zTin (List.mem_of_getElem? (i := 9) (by decide +kernel)) rfl
abbrev mX5_init : zM := (yX5_init, cX5_init, 1, none)
theorem wm_X5_init : zMv mX5_init 0 := ⟨zTin (List.mem_of_getElem? (i := 158) (by decide +kernel)) rfl, zTin (List.mem_of_getElem? (i := 14) (by decide +kernel)) rfl, by decide +kernel, by decide +kernel⟩
theorem wii_X5 : Cond.instanceMethod yX5_init ∈ zT := zTin (List.mem_of_getElem? (i := 157) (by decide +kernel)) rfl
theorem wn_X5 : Cond.instantiable RX5 5 ∈ zT := zTin (List.mem_of_getElem? (i := 155) (by decide +kernel)) rfl
theorem wz_X5 : Cond.initialized RX5 ∈ zT := zTin (List.mem_of_getElem? (i := 14) (by decide +kernel)) rfl
abbrev mX6_init : zM := (yX6_init, cX6_init, 1, none)
theorem wm_X6_init : zMv mX6_init 0 := ⟨zTin (List.mem_of_getElem? (i := 23) (by decide +kernel)) rfl, zTin (List.mem_of_getElem? (i := 8) (by decide +kernel)) rfl, by decide +kernel, by decide +kernel⟩
theorem wii_X6 : Cond.instanceMethod yX6_init ∈ zT := zTin (List.mem_of_getElem? (i := 22) (by decide +kernel)) rfl
theorem wn_X6 : Cond.instantiable RX6 10 ∈ zT := zTin (List.mem_of_getElem? (i := 20) (by decide +kernel)) rfl
theorem wz_X6 : Cond.initialized RX6 ∈ zT := zTin (List.mem_of_getElem? (i := 8) (by decide +kernel)) rfl
theorem wk_L_15 : Cond.classLink "LentPartsLaw" 15 RX6 ∈ zT := zTin (List.mem_of_getElem? (i := 19) (by decide +kernel)) rfl
theorem wk_X6_7 : Cond.classLink RX6 7 RX4 ∈ zT := zTin (List.mem_of_getElem? (i := 27) (by decide +kernel)) rfl
theorem wk_X4_27 : Cond.classLink RX4 27 RX0 ∈ zT := zTin (List.mem_of_getElem? (i := 33) (by decide +kernel)) rfl
theorem wk_X4_34 : Cond.classLink RX4 34 RX3 ∈ zT := zTin (List.mem_of_getElem? (i := 47) (by decide +kernel)) rfl
theorem wk_X6_22 : Cond.classLink RX6 22 RX2 ∈ zT := zTin (List.mem_of_getElem? (i := 125) (by decide +kernel)) rfl
theorem wk_X2_11 : Cond.classLink RX2 11 RX4 ∈ zT := zTin (List.mem_of_getElem? (i := 131) (by decide +kernel)) rfl
theorem wk_X6_29 : Cond.classLink RX6 29 RX1 ∈ zT := zTin (List.mem_of_getElem? (i := 144) (by decide +kernel)) rfl
theorem wk_X6_36 : Cond.classLink RX6 36 RX5 ∈ zT := zTin (List.mem_of_getElem? (i := 154) (by decide +kernel)) rfl
theorem wl_X6_1 : Cond.methodLink RX6 1 objectInit ∈ zT := zTin (List.mem_of_getElem? (i := 24) (by decide +kernel)) rfl
theorem wl_X6_9 : Cond.methodLink RX6 9 yX4_init ∈ zT := zTin (List.mem_of_getElem? (i := 29) (by decide +kernel)) rfl
theorem wl_X6_24 : Cond.methodLink RX6 24 yX2_init ∈ zT := zTin (List.mem_of_getElem? (i := 127) (by decide +kernel)) rfl
theorem wl_X6_31 : ∀ U, gNe U → va_Nw (.methodLinkNest RX6 31 yX1_init "LentParts") U := fun _ h => h.2.2.1
theorem wl_X6_38 : ∀ U, gNe U → va_Nw (.methodLinkNest RX6 38 yX5_init "LentParts") U := fun _ h => h.2.2.2.1
theorem wl_X0_3 : Cond.methodLink RX0 3 objectInit ∈ zT := zTin (List.mem_of_getElem? (i := 38) (by decide +kernel)) rfl
theorem wl_X1_3 : Cond.methodLink RX1 3 objectInit ∈ zT := zTin (List.mem_of_getElem? (i := 149) (by decide +kernel)) rfl
theorem wl_X2_3 : Cond.methodLink RX2 3 objectInit ∈ zT := zTin (List.mem_of_getElem? (i := 130) (by decide +kernel)) rfl
theorem wl_X2_17 : Cond.methodLink RX2 17 yX4_init ∈ zT := zTin (List.mem_of_getElem? (i := 133) (by decide +kernel)) rfl
theorem wl_X3_3 : Cond.methodLink RX3 3 objectInit ∈ zT := zTin (List.mem_of_getElem? (i := 52) (by decide +kernel)) rfl
theorem wl_X4_3 : Cond.methodLink RX4 3 objectInit ∈ zT := zTin (List.mem_of_getElem? (i := 32) (by decide +kernel)) rfl
theorem wl_X4_29 : ∀ U, gNe U → va_Nw (.methodLinkNest RX4 29 yX0_init "LentParts") U := fun _ h => h.1
theorem wl_X4_36 : ∀ U, gNe U → va_Nw (.methodLinkNest RX4 36 yX3_init "LentParts") U := fun _ h => h.2.1
theorem wl_X5_3 : Cond.methodLink RX5 3 objectInit ∈ zT := zTin (List.mem_of_getElem? (i := 159) (by decide +kernel)) rfl
theorem wl_L_72 : Cond.methodLink "LentPartsLaw" 72 yX6_init ∈ zT := zTin (List.mem_of_getElem? (i := 21) (by decide +kernel)) rfl
theorem wo_inst : Cond.instanceMethod objectInit ∈ zT := zTin (List.mem_of_getElem? (i := 25) (by decide +kernel)) rfl
theorem wo_code : Cond.code objectInit ⟨#[0xb1]⟩ 1 none ∈ zT := zTin (List.mem_of_getElem? (i := 26) (by decide +kernel)) rfl
theorem wy_int : Cond.arrayClass .int ∈ zT := zTin (List.mem_of_getElem? (i := 46) (by decide +kernel)) rfl
