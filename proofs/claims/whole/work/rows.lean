section
-- ===== PART A: goes FIRST, ahead of the names: the tables' words, and 'selects' of the private methods out of them =====
/-- a private method of a class that the tables say can be made, by its rows of tables_1 -/
def lw_okq (q : MethodName × Nat) : Prop := (q.1.cls ≠ "java/lang/invoke/MethodHandle" ∧ q.1.cls ≠ "java/lang/invoke/VarHandle") ∧ Cond.instantiable q.1.cls q.2 ∈ tables_1 ∧ Cond.privateMethod q.1 ∈ tables_1 ∧ Cond.instanceMethod q.1 ∈ tables_1
theorem lw_p0 : lw_okq (⟨"LentParts$State", "moveParts", "(IIII)V"⟩, 8) := ⟨⟨by decide +kernel, by decide +kernel⟩, List.mem_of_getElem? (i := 22) (by decide +kernel), List.mem_of_getElem? (i := 251) (by decide +kernel), List.mem_of_getElem? (i := 252) (by decide +kernel)⟩
theorem lw_p1 : lw_okq (⟨"LentParts", "close", "(I)I"⟩, 10) := ⟨⟨by decide +kernel, by decide +kernel⟩, List.mem_of_getElem? (i := 14) (by decide +kernel), List.mem_of_getElem? (i := 259) (by decide +kernel), List.mem_of_getElem? (i := 260) (by decide +kernel)⟩
theorem lw_p2 : lw_okq (⟨"LentParts", "gatherCell", "(II)I"⟩, 10) := ⟨⟨by decide +kernel, by decide +kernel⟩, List.mem_of_getElem? (i := 14) (by decide +kernel), List.mem_of_getElem? (i := 312) (by decide +kernel), List.mem_of_getElem? (i := 313) (by decide +kernel)⟩
theorem lw_p3 : lw_okq (⟨"LentParts$Gathering", "gatherFor", "(LLentParts$State;IIII)V"⟩, 1) := ⟨⟨by decide +kernel, by decide +kernel⟩, List.mem_of_getElem? (i := 139) (by decide +kernel), List.mem_of_getElem? (i := 325) (by decide +kernel), List.mem_of_getElem? (i := 326) (by decide +kernel)⟩
theorem lw_p4 : lw_okq (⟨"LentParts$Gathering", "callIn", "(LLentParts$State;III)V"⟩, 1) := ⟨⟨by decide +kernel, by decide +kernel⟩, List.mem_of_getElem? (i := 139) (by decide +kernel), List.mem_of_getElem? (i := 333) (by decide +kernel), List.mem_of_getElem? (i := 334) (by decide +kernel)⟩
theorem lw_p5 : lw_okq (⟨"LentParts", "serveClaims", "(I)I"⟩, 10) := ⟨⟨by decide +kernel, by decide +kernel⟩, List.mem_of_getElem? (i := 14) (by decide +kernel), List.mem_of_getElem? (i := 390) (by decide +kernel), List.mem_of_getElem? (i := 391) (by decide +kernel)⟩
theorem lw_p6 : lw_okq (⟨"LentParts$Text", "readAct", "()Z"⟩, 5) := ⟨⟨by decide +kernel, by decide +kernel⟩, List.mem_of_getElem? (i := 149) (by decide +kernel), List.mem_of_getElem? (i := 440) (by decide +kernel), List.mem_of_getElem? (i := 441) (by decide +kernel)⟩
theorem lw_p7 : lw_okq (⟨"LentParts$Text", "readForm", "(I)Z"⟩, 5) := ⟨⟨by decide +kernel, by decide +kernel⟩, List.mem_of_getElem? (i := 149) (by decide +kernel), List.mem_of_getElem? (i := 444) (by decide +kernel), List.mem_of_getElem? (i := 445) (by decide +kernel)⟩
theorem lw_p8 : lw_okq (⟨"LentParts$Text", "signHere", "()I"⟩, 5) := ⟨⟨by decide +kernel, by decide +kernel⟩, List.mem_of_getElem? (i := 149) (by decide +kernel), List.mem_of_getElem? (i := 448) (by decide +kernel), List.mem_of_getElem? (i := 449) (by decide +kernel)⟩
theorem lw_p9 : lw_okq (⟨"LentParts$Text", "readLoan", "(I)Z"⟩, 5) := ⟨⟨by decide +kernel, by decide +kernel⟩, List.mem_of_getElem? (i := 149) (by decide +kernel), List.mem_of_getElem? (i := 452) (by decide +kernel), List.mem_of_getElem? (i := 453) (by decide +kernel)⟩
theorem lw_p10 : lw_okq (⟨"LentParts$Text", "readSign", "(I)Z"⟩, 5) := ⟨⟨by decide +kernel, by decide +kernel⟩, List.mem_of_getElem? (i := 149) (by decide +kernel), List.mem_of_getElem? (i := 456) (by decide +kernel), List.mem_of_getElem? (i := 457) (by decide +kernel)⟩
theorem lw_p11 : lw_okq (⟨"LentParts$Text", "readDigit", "(II)Z"⟩, 5) := ⟨⟨by decide +kernel, by decide +kernel⟩, List.mem_of_getElem? (i := 149) (by decide +kernel), List.mem_of_getElem? (i := 460) (by decide +kernel), List.mem_of_getElem? (i := 461) (by decide +kernel)⟩
theorem lw_p12 : lw_okq (⟨"LentParts$Text", "digitHere", "()I"⟩, 5) := ⟨⟨by decide +kernel, by decide +kernel⟩, List.mem_of_getElem? (i := 149) (by decide +kernel), List.mem_of_getElem? (i := 464) (by decide +kernel), List.mem_of_getElem? (i := 465) (by decide +kernel)⟩
theorem lw_p13 : lw_okq (⟨"LentParts$Text", "readPair", "(I)Z"⟩, 5) := ⟨⟨by decide +kernel, by decide +kernel⟩, List.mem_of_getElem? (i := 149) (by decide +kernel), List.mem_of_getElem? (i := 468) (by decide +kernel), List.mem_of_getElem? (i := 469) (by decide +kernel)⟩
theorem lw_p14 : lw_okq (⟨"LentParts$Text", "readNumber", "(III)Z"⟩, 5) := ⟨⟨by decide +kernel, by decide +kernel⟩, List.mem_of_getElem? (i := 149) (by decide +kernel), List.mem_of_getElem? (i := 472) (by decide +kernel), List.mem_of_getElem? (i := 473) (by decide +kernel)⟩
theorem lw_p15 : lw_okq (⟨"LentParts$Text", "readReturn", "(I)Z"⟩, 5) := ⟨⟨by decide +kernel, by decide +kernel⟩, List.mem_of_getElem? (i := 149) (by decide +kernel), List.mem_of_getElem? (i := 476) (by decide +kernel), List.mem_of_getElem? (i := 477) (by decide +kernel)⟩
def lw_privs_1 : List (MethodName × Nat) := [(⟨"LentParts$State", "moveParts", "(IIII)V"⟩, 8), (⟨"LentParts", "close", "(I)I"⟩, 10), (⟨"LentParts", "gatherCell", "(II)I"⟩, 10), (⟨"LentParts$Gathering", "gatherFor", "(LLentParts$State;IIII)V"⟩, 1), (⟨"LentParts$Gathering", "callIn", "(LLentParts$State;III)V"⟩, 1), (⟨"LentParts", "serveClaims", "(I)I"⟩, 10), (⟨"LentParts$Text", "readAct", "()Z"⟩, 5), (⟨"LentParts$Text", "readForm", "(I)Z"⟩, 5), (⟨"LentParts$Text", "signHere", "()I"⟩, 5), (⟨"LentParts$Text", "readLoan", "(I)Z"⟩, 5), (⟨"LentParts$Text", "readSign", "(I)Z"⟩, 5), (⟨"LentParts$Text", "readDigit", "(II)Z"⟩, 5), (⟨"LentParts$Text", "digitHere", "()I"⟩, 5), (⟨"LentParts$Text", "readPair", "(I)Z"⟩, 5), (⟨"LentParts$Text", "readNumber", "(III)Z"⟩, 5), (⟨"LentParts$Text", "readReturn", "(I)Z"⟩, 5)]
theorem lw_r1 : ∀ q ∈ lw_privs_1, lw_okq q := List.forall_mem_cons.mpr ⟨lw_p0, List.forall_mem_cons.mpr ⟨lw_p1, List.forall_mem_cons.mpr ⟨lw_p2, List.forall_mem_cons.mpr ⟨lw_p3, List.forall_mem_cons.mpr ⟨lw_p4, List.forall_mem_cons.mpr ⟨lw_p5, List.forall_mem_cons.mpr ⟨lw_p6, List.forall_mem_cons.mpr ⟨lw_p7, List.forall_mem_cons.mpr ⟨lw_p8, List.forall_mem_cons.mpr ⟨lw_p9, List.forall_mem_cons.mpr ⟨lw_p10, List.forall_mem_cons.mpr ⟨lw_p11, List.forall_mem_cons.mpr ⟨lw_p12, List.forall_mem_cons.mpr ⟨lw_p13, List.forall_mem_cons.mpr ⟨lw_p14, List.forall_mem_cons.mpr ⟨lw_p15, fun _ h => absurd h List.not_mem_nil⟩⟩⟩⟩⟩⟩⟩⟩⟩⟩⟩⟩⟩⟩⟩⟩
theorem lw_p16 : lw_okq (⟨"LentParts$Text", "readWrite", "(I)Z"⟩, 5) := ⟨⟨by decide +kernel, by decide +kernel⟩, List.mem_of_getElem? (i := 149) (by decide +kernel), List.mem_of_getElem? (i := 480) (by decide +kernel), List.mem_of_getElem? (i := 481) (by decide +kernel)⟩
theorem lw_p17 : lw_okq (⟨"LentParts$Text", "readGathering", "(I)Z"⟩, 5) := ⟨⟨by decide +kernel, by decide +kernel⟩, List.mem_of_getElem? (i := 149) (by decide +kernel), List.mem_of_getElem? (i := 484) (by decide +kernel), List.mem_of_getElem? (i := 485) (by decide +kernel)⟩
theorem lw_p18 : lw_okq (⟨"LentParts", "performActs", "()I"⟩, 10) := ⟨⟨by decide +kernel, by decide +kernel⟩, List.mem_of_getElem? (i := 14) (by decide +kernel), List.mem_of_getElem? (i := 488) (by decide +kernel), List.mem_of_getElem? (i := 489) (by decide +kernel)⟩
theorem lw_p19 : lw_okq (⟨"LentParts", "performAct", "(I)I"⟩, 10) := ⟨⟨by decide +kernel, by decide +kernel⟩, List.mem_of_getElem? (i := 14) (by decide +kernel), List.mem_of_getElem? (i := 492) (by decide +kernel), List.mem_of_getElem? (i := 493) (by decide +kernel)⟩
theorem lw_p20 : lw_okq (⟨"LentParts$Loans", "sumParts", "([III)I"⟩, 8) := ⟨⟨by decide +kernel, by decide +kernel⟩, List.mem_of_getElem? (i := 42) (by decide +kernel), List.mem_of_getElem? (i := 552) (by decide +kernel), List.mem_of_getElem? (i := 553) (by decide +kernel)⟩
theorem lw_p21 : lw_okq (⟨"LentParts", "heldAfterGathering", "(II)I"⟩, 10) := ⟨⟨by decide +kernel, by decide +kernel⟩, List.mem_of_getElem? (i := 14) (by decide +kernel), List.mem_of_getElem? (i := 561) (by decide +kernel), List.mem_of_getElem? (i := 562) (by decide +kernel)⟩
theorem lw_p22 : lw_okq (⟨"LentParts$Loans", "linksOf", "(I)J"⟩, 8) := ⟨⟨by decide +kernel, by decide +kernel⟩, List.mem_of_getElem? (i := 42) (by decide +kernel), List.mem_of_getElem? (i := 583) (by decide +kernel), List.mem_of_getElem? (i := 584) (by decide +kernel)⟩
theorem lw_p23 : lw_okq (⟨"LentPartsModel", "lendFault", "(IIII)I"⟩, 20) := ⟨⟨by decide +kernel, by decide +kernel⟩, List.mem_of_getElem? (i := 615) (by decide +kernel), List.mem_of_getElem? (i := 690) (by decide +kernel), List.mem_of_getElem? (i := 691) (by decide +kernel)⟩
theorem lw_p24 : lw_okq (⟨"LentPartsModel", "isFull", "()Z"⟩, 20) := ⟨⟨by decide +kernel, by decide +kernel⟩, List.mem_of_getElem? (i := 615) (by decide +kernel), List.mem_of_getElem? (i := 706) (by decide +kernel), List.mem_of_getElem? (i := 707) (by decide +kernel)⟩
theorem lw_p25 : lw_okq (⟨"LentPartsModel", "know", "()V"⟩, 20) := ⟨⟨by decide +kernel, by decide +kernel⟩, List.mem_of_getElem? (i := 615) (by decide +kernel), List.mem_of_getElem? (i := 710) (by decide +kernel), List.mem_of_getElem? (i := 711) (by decide +kernel)⟩
theorem lw_p26 : lw_okq (⟨"LentPartsModel", "lends", "(IIII)I"⟩, 20) := ⟨⟨by decide +kernel, by decide +kernel⟩, List.mem_of_getElem? (i := 615) (by decide +kernel), List.mem_of_getElem? (i := 714) (by decide +kernel), List.mem_of_getElem? (i := 715) (by decide +kernel)⟩
theorem lw_p27 : lw_okq (⟨"LentPartsModel", "backFault", "(I)I"⟩, 20) := ⟨⟨by decide +kernel, by decide +kernel⟩, List.mem_of_getElem? (i := 615) (by decide +kernel), List.mem_of_getElem? (i := 729) (by decide +kernel), List.mem_of_getElem? (i := 730) (by decide +kernel)⟩
theorem lw_p28 : lw_okq (⟨"LentPartsModel", "placeOf", "(I)I"⟩, 20) := ⟨⟨by decide +kernel, by decide +kernel⟩, List.mem_of_getElem? (i := 615) (by decide +kernel), List.mem_of_getElem? (i := 733) (by decide +kernel), List.mem_of_getElem? (i := 734) (by decide +kernel)⟩
theorem lw_p29 : lw_okq (⟨"LentPartsModel", "canGive", "(I)Z"⟩, 20) := ⟨⟨by decide +kernel, by decide +kernel⟩, List.mem_of_getElem? (i := 615) (by decide +kernel), List.mem_of_getElem? (i := 737) (by decide +kernel), List.mem_of_getElem? (i := 738) (by decide +kernel)⟩
theorem lw_p30 : lw_okq (⟨"LentPartsModel", "gives", "(I)I"⟩, 20) := ⟨⟨by decide +kernel, by decide +kernel⟩, List.mem_of_getElem? (i := 615) (by decide +kernel), List.mem_of_getElem? (i := 741) (by decide +kernel), List.mem_of_getElem? (i := 742) (by decide +kernel)⟩
theorem lw_p31 : lw_okq (⟨"LentPartsModel", "putAside", "()V"⟩, 20) := ⟨⟨by decide +kernel, by decide +kernel⟩, List.mem_of_getElem? (i := 615) (by decide +kernel), List.mem_of_getElem? (i := 752) (by decide +kernel), List.mem_of_getElem? (i := 753) (by decide +kernel)⟩
def lw_privs_2 : List (MethodName × Nat) := [(⟨"LentParts$Text", "readWrite", "(I)Z"⟩, 5), (⟨"LentParts$Text", "readGathering", "(I)Z"⟩, 5), (⟨"LentParts", "performActs", "()I"⟩, 10), (⟨"LentParts", "performAct", "(I)I"⟩, 10), (⟨"LentParts$Loans", "sumParts", "([III)I"⟩, 8), (⟨"LentParts", "heldAfterGathering", "(II)I"⟩, 10), (⟨"LentParts$Loans", "linksOf", "(I)J"⟩, 8), (⟨"LentPartsModel", "lendFault", "(IIII)I"⟩, 20), (⟨"LentPartsModel", "isFull", "()Z"⟩, 20), (⟨"LentPartsModel", "know", "()V"⟩, 20), (⟨"LentPartsModel", "lends", "(IIII)I"⟩, 20), (⟨"LentPartsModel", "backFault", "(I)I"⟩, 20), (⟨"LentPartsModel", "placeOf", "(I)I"⟩, 20), (⟨"LentPartsModel", "canGive", "(I)Z"⟩, 20), (⟨"LentPartsModel", "gives", "(I)I"⟩, 20), (⟨"LentPartsModel", "putAside", "()V"⟩, 20)]
theorem lw_r2 : ∀ q ∈ lw_privs_2, lw_okq q := List.forall_mem_cons.mpr ⟨lw_p16, List.forall_mem_cons.mpr ⟨lw_p17, List.forall_mem_cons.mpr ⟨lw_p18, List.forall_mem_cons.mpr ⟨lw_p19, List.forall_mem_cons.mpr ⟨lw_p20, List.forall_mem_cons.mpr ⟨lw_p21, List.forall_mem_cons.mpr ⟨lw_p22, List.forall_mem_cons.mpr ⟨lw_p23, List.forall_mem_cons.mpr ⟨lw_p24, List.forall_mem_cons.mpr ⟨lw_p25, List.forall_mem_cons.mpr ⟨lw_p26, List.forall_mem_cons.mpr ⟨lw_p27, List.forall_mem_cons.mpr ⟨lw_p28, List.forall_mem_cons.mpr ⟨lw_p29, List.forall_mem_cons.mpr ⟨lw_p30, List.forall_mem_cons.mpr ⟨lw_p31, fun _ h => absurd h List.not_mem_nil⟩⟩⟩⟩⟩⟩⟩⟩⟩⟩⟩⟩⟩⟩⟩⟩
theorem lw_p32 : lw_okq (⟨"LentPartsModel", "gathers", "(II)I"⟩, 20) := ⟨⟨by decide +kernel, by decide +kernel⟩, List.mem_of_getElem? (i := 615) (by decide +kernel), List.mem_of_getElem? (i := 756) (by decide +kernel), List.mem_of_getElem? (i := 757) (by decide +kernel)⟩
theorem lw_p33 : lw_okq (⟨"LentPartsModel", "enter", "(I)V"⟩, 20) := ⟨⟨by decide +kernel, by decide +kernel⟩, List.mem_of_getElem? (i := 615) (by decide +kernel), List.mem_of_getElem? (i := 760) (by decide +kernel), List.mem_of_getElem? (i := 761) (by decide +kernel)⟩
theorem lw_p34 : lw_okq (⟨"LentPartsModel", "latest", "(III)I"⟩, 20) := ⟨⟨by decide +kernel, by decide +kernel⟩, List.mem_of_getElem? (i := 615) (by decide +kernel), List.mem_of_getElem? (i := 764) (by decide +kernel), List.mem_of_getElem? (i := 765) (by decide +kernel)⟩
theorem lw_p35 : lw_okq (⟨"LentPartsModel", "isGathering", "(I)Z"⟩, 20) := ⟨⟨by decide +kernel, by decide +kernel⟩, List.mem_of_getElem? (i := 615) (by decide +kernel), List.mem_of_getElem? (i := 768) (by decide +kernel), List.mem_of_getElem? (i := 769) (by decide +kernel)⟩
theorem lw_p36 : lw_okq (⟨"LentPartsModel", "putBack", "()V"⟩, 20) := ⟨⟨by decide +kernel, by decide +kernel⟩, List.mem_of_getElem? (i := 615) (by decide +kernel), List.mem_of_getElem? (i := 772) (by decide +kernel), List.mem_of_getElem? (i := 773) (by decide +kernel)⟩
theorem lw_p37 : lw_okq (⟨"LentPartsModel", "writeFault", "(III)I"⟩, 20) := ⟨⟨by decide +kernel, by decide +kernel⟩, List.mem_of_getElem? (i := 615) (by decide +kernel), List.mem_of_getElem? (i := 784) (by decide +kernel), List.mem_of_getElem? (i := 785) (by decide +kernel)⟩
theorem lw_p38 : lw_okq (⟨"LentPartsModel", "writes", "(II)I"⟩, 20) := ⟨⟨by decide +kernel, by decide +kernel⟩, List.mem_of_getElem? (i := 615) (by decide +kernel), List.mem_of_getElem? (i := 788) (by decide +kernel), List.mem_of_getElem? (i := 789) (by decide +kernel)⟩
theorem lw_p39 : lw_okq (⟨"LentPartsModel", "placeOfClaim", "(II)I"⟩, 20) := ⟨⟨by decide +kernel, by decide +kernel⟩, List.mem_of_getElem? (i := 615) (by decide +kernel), List.mem_of_getElem? (i := 800) (by decide +kernel), List.mem_of_getElem? (i := 801) (by decide +kernel)⟩
theorem lw_p40 : lw_okq (⟨"LentPartsModel", "dropClaim", "(II)V"⟩, 20) := ⟨⟨by decide +kernel, by decide +kernel⟩, List.mem_of_getElem? (i := 615) (by decide +kernel), List.mem_of_getElem? (i := 804) (by decide +kernel), List.mem_of_getElem? (i := 805) (by decide +kernel)⟩
theorem lw_p41 : lw_okq (⟨"LentPartsModel", "serves", "(I)I"⟩, 20) := ⟨⟨by decide +kernel, by decide +kernel⟩, List.mem_of_getElem? (i := 615) (by decide +kernel), List.mem_of_getElem? (i := 812) (by decide +kernel), List.mem_of_getElem? (i := 813) (by decide +kernel)⟩
theorem lw_p42 : lw_okq (⟨"LentPartsModel", "loansOf", "(I)I"⟩, 20) := ⟨⟨by decide +kernel, by decide +kernel⟩, List.mem_of_getElem? (i := 615) (by decide +kernel), List.mem_of_getElem? (i := 820) (by decide +kernel), List.mem_of_getElem? (i := 821) (by decide +kernel)⟩
theorem lw_p43 : lw_okq (⟨"LentPartsModel", "go", "(Z)I"⟩, 20) := ⟨⟨by decide +kernel, by decide +kernel⟩, List.mem_of_getElem? (i := 615) (by decide +kernel), List.mem_of_getElem? (i := 836) (by decide +kernel), List.mem_of_getElem? (i := 837) (by decide +kernel)⟩
theorem lw_p44 : lw_okq (⟨"LentPartsModel", "order", "()V"⟩, 20) := ⟨⟨by decide +kernel, by decide +kernel⟩, List.mem_of_getElem? (i := 615) (by decide +kernel), List.mem_of_getElem? (i := 840) (by decide +kernel), List.mem_of_getElem? (i := 841) (by decide +kernel)⟩
theorem lw_p45 : lw_okq (⟨"LentPartsModel", "number", "(II)I"⟩, 20) := ⟨⟨by decide +kernel, by decide +kernel⟩, List.mem_of_getElem? (i := 615) (by decide +kernel), List.mem_of_getElem? (i := 844) (by decide +kernel), List.mem_of_getElem? (i := 845) (by decide +kernel)⟩
theorem lw_p46 : lw_okq (⟨"LentPartsModel", "sign", "(II)I"⟩, 20) := ⟨⟨by decide +kernel, by decide +kernel⟩, List.mem_of_getElem? (i := 615) (by decide +kernel), List.mem_of_getElem? (i := 848) (by decide +kernel), List.mem_of_getElem? (i := 849) (by decide +kernel)⟩
theorem lw_p47 : lw_okq (⟨"LentPartsModel", "digit", "()I"⟩, 20) := ⟨⟨by decide +kernel, by decide +kernel⟩, List.mem_of_getElem? (i := 615) (by decide +kernel), List.mem_of_getElem? (i := 852) (by decide +kernel), List.mem_of_getElem? (i := 853) (by decide +kernel)⟩
def lw_privs_3 : List (MethodName × Nat) := [(⟨"LentPartsModel", "gathers", "(II)I"⟩, 20), (⟨"LentPartsModel", "enter", "(I)V"⟩, 20), (⟨"LentPartsModel", "latest", "(III)I"⟩, 20), (⟨"LentPartsModel", "isGathering", "(I)Z"⟩, 20), (⟨"LentPartsModel", "putBack", "()V"⟩, 20), (⟨"LentPartsModel", "writeFault", "(III)I"⟩, 20), (⟨"LentPartsModel", "writes", "(II)I"⟩, 20), (⟨"LentPartsModel", "placeOfClaim", "(II)I"⟩, 20), (⟨"LentPartsModel", "dropClaim", "(II)V"⟩, 20), (⟨"LentPartsModel", "serves", "(I)I"⟩, 20), (⟨"LentPartsModel", "loansOf", "(I)I"⟩, 20), (⟨"LentPartsModel", "go", "(Z)I"⟩, 20), (⟨"LentPartsModel", "order", "()V"⟩, 20), (⟨"LentPartsModel", "number", "(II)I"⟩, 20), (⟨"LentPartsModel", "sign", "(II)I"⟩, 20), (⟨"LentPartsModel", "digit", "()I"⟩, 20)]
theorem lw_r3 : ∀ q ∈ lw_privs_3, lw_okq q := List.forall_mem_cons.mpr ⟨lw_p32, List.forall_mem_cons.mpr ⟨lw_p33, List.forall_mem_cons.mpr ⟨lw_p34, List.forall_mem_cons.mpr ⟨lw_p35, List.forall_mem_cons.mpr ⟨lw_p36, List.forall_mem_cons.mpr ⟨lw_p37, List.forall_mem_cons.mpr ⟨lw_p38, List.forall_mem_cons.mpr ⟨lw_p39, List.forall_mem_cons.mpr ⟨lw_p40, List.forall_mem_cons.mpr ⟨lw_p41, List.forall_mem_cons.mpr ⟨lw_p42, List.forall_mem_cons.mpr ⟨lw_p43, List.forall_mem_cons.mpr ⟨lw_p44, List.forall_mem_cons.mpr ⟨lw_p45, List.forall_mem_cons.mpr ⟨lw_p46, List.forall_mem_cons.mpr ⟨lw_p47, fun _ h => absurd h List.not_mem_nil⟩⟩⟩⟩⟩⟩⟩⟩⟩⟩⟩⟩⟩⟩⟩⟩
theorem lw_p48 : lw_okq (⟨"LentPartsModel", "does", "()I"⟩, 20) := ⟨⟨by decide +kernel, by decide +kernel⟩, List.mem_of_getElem? (i := 615) (by decide +kernel), List.mem_of_getElem? (i := 856) (by decide +kernel), List.mem_of_getElem? (i := 857) (by decide +kernel)⟩
theorem lw_p49 : lw_okq (⟨"LentPartsModel", "agentsOf", "(II)I"⟩, 20) := ⟨⟨by decide +kernel, by decide +kernel⟩, List.mem_of_getElem? (i := 615) (by decide +kernel), List.mem_of_getElem? (i := 880) (by decide +kernel), List.mem_of_getElem? (i := 881) (by decide +kernel)⟩
theorem lw_p50 : lw_okq (⟨"LentPartsModel", "wholeOf", "(I)I"⟩, 20) := ⟨⟨by decide +kernel, by decide +kernel⟩, List.mem_of_getElem? (i := 615) (by decide +kernel), List.mem_of_getElem? (i := 884) (by decide +kernel), List.mem_of_getElem? (i := 885) (by decide +kernel)⟩
theorem lw_p51 : lw_okq (⟨"LentPartsModel", "sum", "(III)I"⟩, 20) := ⟨⟨by decide +kernel, by decide +kernel⟩, List.mem_of_getElem? (i := 615) (by decide +kernel), List.mem_of_getElem? (i := 892) (by decide +kernel), List.mem_of_getElem? (i := 893) (by decide +kernel)⟩
theorem lw_p52 : lw_okq (⟨"LentPartsModel", "wouldGather", "(II)I"⟩, 20) := ⟨⟨by decide +kernel, by decide +kernel⟩, List.mem_of_getElem? (i := 615) (by decide +kernel), List.mem_of_getElem? (i := 896) (by decide +kernel), List.mem_of_getElem? (i := 897) (by decide +kernel)⟩
theorem lw_p53 : lw_okq (⟨"LentPartsModel", "sumOfCells", "(I)I"⟩, 20) := ⟨⟨by decide +kernel, by decide +kernel⟩, List.mem_of_getElem? (i := 615) (by decide +kernel), List.mem_of_getElem? (i := 916) (by decide +kernel), List.mem_of_getElem? (i := 917) (by decide +kernel)⟩
def lw_privs_4 : List (MethodName × Nat) := [(⟨"LentPartsModel", "does", "()I"⟩, 20), (⟨"LentPartsModel", "agentsOf", "(II)I"⟩, 20), (⟨"LentPartsModel", "wholeOf", "(I)I"⟩, 20), (⟨"LentPartsModel", "sum", "(III)I"⟩, 20), (⟨"LentPartsModel", "wouldGather", "(II)I"⟩, 20), (⟨"LentPartsModel", "sumOfCells", "(I)I"⟩, 20)]
theorem lw_r4 : ∀ q ∈ lw_privs_4, lw_okq q := List.forall_mem_cons.mpr ⟨lw_p48, List.forall_mem_cons.mpr ⟨lw_p49, List.forall_mem_cons.mpr ⟨lw_p50, List.forall_mem_cons.mpr ⟨lw_p51, List.forall_mem_cons.mpr ⟨lw_p52, List.forall_mem_cons.mpr ⟨lw_p53, fun _ h => absurd h List.not_mem_nil⟩⟩⟩⟩⟩⟩
def lw_privs : List (MethodName × Nat) := lw_privs_1 ++ (lw_privs_2 ++ (lw_privs_3 ++ (lw_privs_4)))
def lw_tbl : List Cond := k2_sels lw_privs ++ tables_1
theorem lw_privs_ok : ∀ q ∈ lw_privs, lw_okq q := by
  show ∀ q ∈ lw_privs_1 ++ (lw_privs_2 ++ (lw_privs_3 ++ (lw_privs_4))), lw_okq q
  exact List.forall_mem_append.mpr ⟨lw_r1, List.forall_mem_append.mpr ⟨lw_r2, List.forall_mem_append.mpr ⟨lw_r3, lw_r4⟩⟩⟩
-- ===== end of PART A; then your names; then what follows =====
end
section
/-! ===== BEGIN printed: names, fields, word lists, decode rows ===== -/
def RX0 : String := "LentParts$Claims"
def TX0 : u_T := fun k => match k with
  | 0 => ("LentParts$Claims", "agents", "[I", true)
  | _ => ("LentParts$Claims", "sizes", "[I", true)
def tyX0 : Nat → FieldType := fun k => match k with
  | 0 => .array .int
  | _ => .array .int
abbrev wsX00 : List Cond := u_ws RX0 TX0 2
theorem nmX0 : ∀ a, a < 2 → ∀ b, b < 2 → a ≠ b → (TX0 a).2.1 ≠ (TX0 b).2.1 := by decide +kernel
theorem tyX0_ok : ∀ k, k < 2 → parseFieldDescriptor (TX0 k).2.2.1 = some (tyX0 k) := by decide +kernel
abbrev cX0_init : ByteArray := prog_2_method_1_code
def yX0_init : MethodName := ⟨RX0, "<init>", "()V"⟩
abbrev cX0_copyFrom : ByteArray := prog_2_method_2_code
def yX0_copyFrom : MethodName := ⟨RX0, "copyFrom", "(LLentParts$Claims;)V"⟩
abbrev cX0_size : ByteArray := prog_2_method_3_code
def yX0_size : MethodName := ⟨RX0, "size", "(I)I"⟩
abbrev cX0_sizeOfAll : ByteArray := prog_2_method_4_code
def yX0_sizeOfAll : MethodName := ⟨RX0, "sizeOfAll", "()I"⟩
abbrev cX0_first : ByteArray := prog_2_method_5_code
def yX0_first : MethodName := ⟨RX0, "first", "(I)I"⟩
abbrev cX0_placeOf : ByteArray := prog_2_method_6_code
def yX0_placeOf : MethodName := ⟨RX0, "placeOf", "(II)I"⟩
abbrev cX0_append : ByteArray := prog_2_method_7_code
def yX0_append : MethodName := ⟨RX0, "append", "(II)V"⟩
abbrev cX0_remove : ByteArray := prog_2_method_8_code
def yX0_remove : MethodName := ⟨RX0, "remove", "(II)V"⟩
def RX1 : String := "LentParts$Gathering"
def TX1 : u_T := fun k => match k with
  | _ => ("LentParts$Gathering", "idleAt", "[I", true)
def tyX1 : Nat → FieldType := fun k => match k with
  | _ => .array .int
abbrev wsX10 : List Cond := u_ws RX1 TX1 1
theorem nmX1 : ∀ a, a < 1 → ∀ b, b < 1 → a ≠ b → (TX1 a).2.1 ≠ (TX1 b).2.1 := by decide +kernel
theorem tyX1_ok : ∀ k, k < 1 → parseFieldDescriptor (TX1 k).2.2.1 = some (tyX1 k) := by decide +kernel
abbrev cX1_init : ByteArray := prog_3_method_1_code
def yX1_init : MethodName := ⟨RX1, "<init>", "()V"⟩
abbrev cX1_run : ByteArray := prog_3_method_2_code
def yX1_run : MethodName := ⟨RX1, "run", "(LLentParts$State;II)I"⟩
abbrev cX1_gatherFor : ByteArray := prog_3_method_3_code
def yX1_gatherFor : MethodName := ⟨RX1, "gatherFor", "(LLentParts$State;IIII)V"⟩
abbrev cX1_callIn : ByteArray := prog_3_method_4_code
def yX1_callIn : MethodName := ⟨RX1, "callIn", "(LLentParts$State;III)V"⟩
def RX2 : String := "LentParts$History"
def TX2 : u_T := fun k => match k with
  | 0 => ("LentParts$History", "rows", "[LLentParts$State;", true)
  | 1 => ("LentParts$History", "open", "I", false)
  | _ => ("LentParts$History", "size", "I", false)
def tyX2 : Nat → FieldType := fun k => match k with
  | 0 => .array (.object "LentParts$State")
  | 1 => .int
  | _ => .int
abbrev wsX20 : List Cond := u_ws RX2 TX2 3
theorem nmX2 : ∀ a, a < 3 → ∀ b, b < 3 → a ≠ b → (TX2 a).2.1 ≠ (TX2 b).2.1 := by decide +kernel
theorem tyX2_ok : ∀ k, k < 3 → parseFieldDescriptor (TX2 k).2.2.1 = some (tyX2 k) := by decide +kernel
abbrev cX2_init : ByteArray := prog_4_method_1_code
def yX2_init : MethodName := ⟨RX2, "<init>", "()V"⟩
abbrev cX2_size : ByteArray := prog_4_method_2_code
def yX2_size : MethodName := ⟨RX2, "size", "()I"⟩
abbrev cX2_open : ByteArray := prog_4_method_3_code
def yX2_open : MethodName := ⟨RX2, "open", "(LLentParts$State;)V"⟩
abbrev cX2_opened : ByteArray := prog_4_method_4_code
def yX2_opened : MethodName := ⟨RX2, "opened", "()LLentParts$State;"⟩
abbrev cX2_record : ByteArray := prog_4_method_5_code
def yX2_record : MethodName := ⟨RX2, "record", "()V"⟩
abbrev cX2_takeLatest : ByteArray := prog_4_method_6_code
def yX2_takeLatest : MethodName := ⟨RX2, "takeLatest", "()LLentParts$State;"⟩
def RX3 : String := "LentParts$Loans"
def TX3 : u_T := fun k => match k with
  | 0 => ("LentParts$Loans", "number", "[I", true)
  | 1 => ("LentParts$Loans", "lender", "[I", true)
  | 2 => ("LentParts$Loans", "borrower", "[I", true)
  | 3 => ("LentParts$Loans", "cell", "[I", true)
  | 4 => ("LentParts$Loans", "parts", "[I", true)
  | 5 => ("LentParts$Loans", "standing", "I", false)
  | 6 => ("LentParts$Loans", "made", "I", false)
  | _ => ("LentParts$Loans", "ended", "I", false)
def tyX3 : Nat → FieldType := fun k => match k with
  | 0 => .array .int
  | 1 => .array .int
  | 2 => .array .int
  | 3 => .array .int
  | 4 => .array .int
  | 5 => .int
  | 6 => .int
  | _ => .int
abbrev wsX30 : List Cond := u_ws RX3 TX3 8
theorem nmX3 : ∀ a, a < 8 → ∀ b, b < 8 → a ≠ b → (TX3 a).2.1 ≠ (TX3 b).2.1 := by decide +kernel
theorem tyX3_ok : ∀ k, k < 8 → parseFieldDescriptor (TX3 k).2.2.1 = some (tyX3 k) := by decide +kernel
abbrev cX3_init : ByteArray := prog_5_method_1_code
def yX3_init : MethodName := ⟨RX3, "<init>", "()V"⟩
abbrev cX3_copyFrom : ByteArray := prog_5_method_2_code
def yX3_copyFrom : MethodName := ⟨RX3, "copyFrom", "(LLentParts$Loans;)V"⟩
abbrev cX3_hasRoom : ByteArray := prog_5_method_3_code
def yX3_hasRoom : MethodName := ⟨RX3, "hasRoom", "()Z"⟩
abbrev cX3_append : ByteArray := prog_5_method_4_code
def yX3_append : MethodName := ⟨RX3, "append", "(IIII)I"⟩
abbrev cX3_remove : ByteArray := prog_5_method_5_code
def yX3_remove : MethodName := ⟨RX3, "remove", "(I)V"⟩
abbrev cX3_rowOf : ByteArray := prog_5_method_6_code
def yX3_rowOf : MethodName := ⟨RX3, "rowOf", "(I)I"⟩
abbrev cX3_latestAhead : ByteArray := prog_5_method_7_code
def yX3_latestAhead : MethodName := ⟨RX3, "latestAhead", "(III)I"⟩
abbrev cX3_countOf : ByteArray := prog_5_method_8_code
def yX3_countOf : MethodName := ⟨RX3, "countOf", "(I)I"⟩
abbrev cX3_partsLent : ByteArray := prog_5_method_9_code
def yX3_partsLent : MethodName := ⟨RX3, "partsLent", "(II)I"⟩
abbrev cX3_partsBorrowed : ByteArray := prog_5_method_10_code
def yX3_partsBorrowed : MethodName := ⟨RX3, "partsBorrowed", "(II)I"⟩
abbrev cX3_sumParts : ByteArray := prog_5_method_11_code
def yX3_sumParts : MethodName := ⟨RX3, "sumParts", "([III)I"⟩
abbrev cX3_longestChain : ByteArray := prog_5_method_12_code
def yX3_longestChain : MethodName := ⟨RX3, "longestChain", "(I)I"⟩
abbrev cX3_linksOf : ByteArray := prog_5_method_13_code
def yX3_linksOf : MethodName := ⟨RX3, "linksOf", "(I)J"⟩
abbrev cX3_longestFrom : ByteArray := prog_5_method_14_code
def yX3_longestFrom : MethodName := ⟨RX3, "longestFrom", "(JIII)I"⟩
def RX4 : String := "LentParts$State"
def TX4 : u_T := fun k => match k with
  | 0 => ("LentParts$State", "value", "[I", true)
  | 1 => ("LentParts$State", "version", "[I", true)
  | 2 => ("LentParts$State", "owner", "[I", true)
  | 3 => ("LentParts$State", "held", "[I", true)
  | 4 => ("LentParts$State", "holding", "[I", true)
  | 5 => ("LentParts$State", "claims", "LLentParts$Claims;", true)
  | 6 => ("LentParts$State", "loans", "LLentParts$Loans;", true)
  | _ => ("LentParts$State", "writes", "I", false)
def tyX4 : Nat → FieldType := fun k => match k with
  | 0 => .array .int
  | 1 => .array .int
  | 2 => .array .int
  | 3 => .array .int
  | 4 => .array .int
  | 5 => .object "LentParts$Claims"
  | 6 => .object "LentParts$Loans"
  | _ => .int
abbrev wsX40 : List Cond := u_ws RX4 TX4 8
theorem nmX4 : ∀ a, a < 8 → ∀ b, b < 8 → a ≠ b → (TX4 a).2.1 ≠ (TX4 b).2.1 := by decide +kernel
theorem tyX4_ok : ∀ k, k < 8 → parseFieldDescriptor (TX4 k).2.2.1 = some (tyX4 k) := by decide +kernel
abbrev cX4_init : ByteArray := prog_6_method_1_code
def yX4_init : MethodName := ⟨RX4, "<init>", "()V"⟩
abbrev cX4_copyFrom : ByteArray := prog_6_method_2_code
def yX4_copyFrom : MethodName := ⟨RX4, "copyFrom", "(LLentParts$State;)V"⟩
abbrev cX4_heldBy : ByteArray := prog_6_method_3_code
def yX4_heldBy : MethodName := ⟨RX4, "heldBy", "(II)I"⟩
abbrev cX4_isHolding : ByteArray := prog_6_method_4_code
def yX4_isHolding : MethodName := ⟨RX4, "isHolding", "(II)Z"⟩
abbrev cX4_makeLoan : ByteArray := prog_6_method_5_code
def yX4_makeLoan : MethodName := ⟨RX4, "makeLoan", "(IIII)I"⟩
abbrev cX4_makeHalfLoan : ByteArray := prog_6_method_6_code
def yX4_makeHalfLoan : MethodName := ⟨RX4, "makeHalfLoan", "(III)I"⟩
abbrev cX4_endLoan : ByteArray := prog_6_method_7_code
def yX4_endLoan : MethodName := ⟨RX4, "endLoan", "(I)I"⟩
abbrev cX4_canEndLoan : ByteArray := prog_6_method_8_code
def yX4_canEndLoan : MethodName := ⟨RX4, "canEndLoan", "(I)Z"⟩
abbrev cX4_returnParts : ByteArray := prog_6_method_9_code
def yX4_returnParts : MethodName := ⟨RX4, "returnParts", "(I)V"⟩
abbrev cX4_moveParts : ByteArray := prog_6_method_10_code
def yX4_moveParts : MethodName := ⟨RX4, "moveParts", "(IIII)V"⟩
abbrev cX4_setHolding : ByteArray := prog_6_method_11_code
def yX4_setHolding : MethodName := ⟨RX4, "setHolding", "(IIZ)I"⟩
abbrev cX4_writeValue : ByteArray := prog_6_method_12_code
def yX4_writeValue : MethodName := ⟨RX4, "writeValue", "(III)I"⟩
abbrev cX4_setClaim : ByteArray := prog_6_method_13_code
def yX4_setClaim : MethodName := ⟨RX4, "setClaim", "(IIZ)I"⟩
abbrev cX4_grantFirstClaim : ByteArray := prog_6_method_14_code
def yX4_grantFirstClaim : MethodName := ⟨RX4, "grantFirstClaim", "(I)I"⟩
abbrev cX4_changeOwner : ByteArray := prog_6_method_15_code
def yX4_changeOwner : MethodName := ⟨RX4, "changeOwner", "(II)I"⟩
abbrev cX4_countReaders : ByteArray := prog_6_method_16_code
def yX4_countReaders : MethodName := ⟨RX4, "countReaders", "(I)I"⟩
abbrev cX4_holderOfWhole : ByteArray := prog_6_method_17_code
def yX4_holderOfWhole : MethodName := ⟨RX4, "holderOfWhole", "(I)I"⟩
abbrev cX4_countWholeCells : ByteArray := prog_6_method_18_code
def yX4_countWholeCells : MethodName := ⟨RX4, "countWholeCells", "()I"⟩
abbrev cX4_countHolding : ByteArray := prog_6_method_19_code
def yX4_countHolding : MethodName := ⟨RX4, "countHolding", "(I)I"⟩
abbrev cX4_countAllHolding : ByteArray := prog_6_method_20_code
def yX4_countAllHolding : MethodName := ⟨RX4, "countAllHolding", "()I"⟩
def RX5 : String := "LentParts$Text"
def TX5 : u_T := fun k => match k with
  | 0 => ("LentParts$Text", "signs", "[I", true)
  | 1 => ("LentParts$Text", "length", "I", false)
  | 2 => ("LentParts$Text", "place", "I", false)
  | 3 => ("LentParts$Text", "slots", "[I", true)
  | _ => ("LentParts$Text", "acts", "I", false)
def tyX5 : Nat → FieldType := fun k => match k with
  | 0 => .array .int
  | 1 => .int
  | 2 => .int
  | 3 => .array .int
  | _ => .int
abbrev wsX50 : List Cond := u_ws RX5 TX5 5
theorem nmX5 : ∀ a, a < 5 → ∀ b, b < 5 → a ≠ b → (TX5 a).2.1 ≠ (TX5 b).2.1 := by decide +kernel
theorem tyX5_ok : ∀ k, k < 5 → parseFieldDescriptor (TX5 k).2.2.1 = some (tyX5 k) := by decide +kernel
abbrev cX5_init : ByteArray := prog_7_method_1_code
def yX5_init : MethodName := ⟨RX5, "<init>", "()V"⟩
abbrev cX5_size : ByteArray := prog_7_method_2_code
def yX5_size : MethodName := ⟨RX5, "size", "()I"⟩
abbrev cX5_append : ByteArray := prog_7_method_3_code
def yX5_append : MethodName := ⟨RX5, "append", "(C)I"⟩
abbrev cX5_empty : ByteArray := prog_7_method_4_code
def yX5_empty : MethodName := ⟨RX5, "empty", "()I"⟩
abbrev cX5_findFault : ByteArray := prog_7_method_5_code
def yX5_findFault : MethodName := ⟨RX5, "findFault", "()I"⟩
abbrev cX5_readAct : ByteArray := prog_7_method_6_code
def yX5_readAct : MethodName := ⟨RX5, "readAct", "()Z"⟩
abbrev cX5_readForm : ByteArray := prog_7_method_7_code
def yX5_readForm : MethodName := ⟨RX5, "readForm", "(I)Z"⟩
abbrev cX5_readLoan : ByteArray := prog_7_method_8_code
def yX5_readLoan : MethodName := ⟨RX5, "readLoan", "(I)Z"⟩
abbrev cX5_readReturn : ByteArray := prog_7_method_9_code
def yX5_readReturn : MethodName := ⟨RX5, "readReturn", "(I)Z"⟩
abbrev cX5_readWrite : ByteArray := prog_7_method_10_code
def yX5_readWrite : MethodName := ⟨RX5, "readWrite", "(I)Z"⟩
abbrev cX5_readGathering : ByteArray := prog_7_method_11_code
def yX5_readGathering : MethodName := ⟨RX5, "readGathering", "(I)Z"⟩
abbrev cX5_readPair : ByteArray := prog_7_method_12_code
def yX5_readPair : MethodName := ⟨RX5, "readPair", "(I)Z"⟩
abbrev cX5_signHere : ByteArray := prog_7_method_13_code
def yX5_signHere : MethodName := ⟨RX5, "signHere", "()I"⟩
abbrev cX5_digitHere : ByteArray := prog_7_method_14_code
def yX5_digitHere : MethodName := ⟨RX5, "digitHere", "()I"⟩
abbrev cX5_readSign : ByteArray := prog_7_method_15_code
def yX5_readSign : MethodName := ⟨RX5, "readSign", "(I)Z"⟩
abbrev cX5_readDigit : ByteArray := prog_7_method_16_code
def yX5_readDigit : MethodName := ⟨RX5, "readDigit", "(II)Z"⟩
abbrev cX5_readNumber : ByteArray := prog_7_method_17_code
def yX5_readNumber : MethodName := ⟨RX5, "readNumber", "(III)Z"⟩
def RX6 : String := "LentParts"
def TX6 : u_T := fun k => match k with
  | 0 => ("LentParts", "now", "LLentParts$State;", true)
  | 1 => ("LentParts", "trial", "LLentParts$State;", true)
  | 2 => ("LentParts", "snapshot", "LLentParts$State;", true)
  | 3 => ("LentParts", "history", "LLentParts$History;", true)
  | 4 => ("LentParts", "gathering", "LLentParts$Gathering;", true)
  | 5 => ("LentParts", "text", "LLentParts$Text;", true)
  | 6 => ("LentParts", "kept", "Z", false)
  | 7 => ("LentParts", "stopped", "Z", false)
  | 8 => ("LentParts", "stoppedAct", "I", false)
  | _ => ("LentParts", "stoppedBy", "I", false)
def tyX6 : Nat → FieldType := fun k => match k with
  | 0 => .object "LentParts$State"
  | 1 => .object "LentParts$State"
  | 2 => .object "LentParts$State"
  | 3 => .object "LentParts$History"
  | 4 => .object "LentParts$Gathering"
  | 5 => .object "LentParts$Text"
  | 6 => .boolean
  | 7 => .boolean
  | 8 => .int
  | _ => .int
abbrev wsX60 : List Cond := u_ws RX6 TX6 10
theorem nmX6 : ∀ a, a < 10 → ∀ b, b < 10 → a ≠ b → (TX6 a).2.1 ≠ (TX6 b).2.1 := by decide +kernel
theorem tyX6_ok : ∀ k, k < 10 → parseFieldDescriptor (TX6 k).2.2.1 = some (tyX6 k) := by decide +kernel
abbrev cX6_init : ByteArray := prog_1_method_1_code
def yX6_init : MethodName := ⟨RX6, "<init>", "()V"⟩
abbrev cX6_lend : ByteArray := prog_1_method_2_code
def yX6_lend : MethodName := ⟨RX6, "lend", "(IIII)I"⟩
abbrev cX6_half : ByteArray := prog_1_method_3_code
def yX6_half : MethodName := ⟨RX6, "half", "(III)I"⟩
abbrev cX6_giveBack : ByteArray := prog_1_method_4_code
def yX6_giveBack : MethodName := ⟨RX6, "giveBack", "(I)I"⟩
abbrev cX6_gather : ByteArray := prog_1_method_5_code
def yX6_gather : MethodName := ⟨RX6, "gather", "(II)I"⟩
abbrev cX6_hold : ByteArray := prog_1_method_6_code
def yX6_hold : MethodName := ⟨RX6, "hold", "(IIZ)I"⟩
abbrev cX6_write : ByteArray := prog_1_method_7_code
def yX6_write : MethodName := ⟨RX6, "write", "(III)I"⟩
abbrev cX6_read : ByteArray := prog_1_method_8_code
def yX6_read : MethodName := ⟨RX6, "read", "(II)I"⟩
abbrev cX6_claim : ByteArray := prog_1_method_9_code
def yX6_claim : MethodName := ⟨RX6, "claim", "(IIZ)I"⟩
abbrev cX6_serve : ByteArray := prog_1_method_10_code
def yX6_serve : MethodName := ⟨RX6, "serve", "(I)I"⟩
abbrev cX6_handOver : ByteArray := prog_1_method_11_code
def yX6_handOver : MethodName := ⟨RX6, "handOver", "(II)I"⟩
abbrev cX6_type : ByteArray := prog_1_method_12_code
def yX6_type : MethodName := ⟨RX6, "type", "(C)I"⟩
abbrev cX6_clearText : ByteArray := prog_1_method_13_code
def yX6_clearText : MethodName := ⟨RX6, "clearText", "()I"⟩
abbrev cX6_perform : ByteArray := prog_1_method_14_code
def yX6_perform : MethodName := ⟨RX6, "perform", "()I"⟩
abbrev cX6_stop : ByteArray := prog_1_method_15_code
def yX6_stop : MethodName := ⟨RX6, "stop", "(I)I"⟩
abbrev cX6_undo : ByteArray := prog_1_method_16_code
def yX6_undo : MethodName := ⟨RX6, "undo", "()I"⟩
abbrev cX6_keep : ByteArray := prog_1_method_17_code
def yX6_keep : MethodName := ⟨RX6, "keep", "()I"⟩
abbrev cX6_restore : ByteArray := prog_1_method_18_code
def yX6_restore : MethodName := ⟨RX6, "restore", "()I"⟩
abbrev cX6_cell : ByteArray := prog_1_method_19_code
def yX6_cell : MethodName := ⟨RX6, "cell", "(II)I"⟩
abbrev cX6_part : ByteArray := prog_1_method_20_code
def yX6_part : MethodName := ⟨RX6, "part", "(III)I"⟩
abbrev cX6_loan : ByteArray := prog_1_method_21_code
def yX6_loan : MethodName := ⟨RX6, "loan", "(II)I"⟩
abbrev cX6_reason : ByteArray := prog_1_method_22_code
def yX6_reason : MethodName := ⟨RX6, "reason", "(II)I"⟩
abbrev cX6_chain : ByteArray := prog_1_method_23_code
def yX6_chain : MethodName := ⟨RX6, "chain", "(I)I"⟩
abbrev cX6_count : ByteArray := prog_1_method_24_code
def yX6_count : MethodName := ⟨RX6, "count", "(I)I"⟩
abbrev cX6_close : ByteArray := prog_1_method_25_code
def yX6_close : MethodName := ⟨RX6, "close", "(I)I"⟩
abbrev cX6_gatherCell : ByteArray := prog_1_method_26_code
def yX6_gatherCell : MethodName := ⟨RX6, "gatherCell", "(II)I"⟩
abbrev cX6_heldAfterGathering : ByteArray := prog_1_method_27_code
def yX6_heldAfterGathering : MethodName := ⟨RX6, "heldAfterGathering", "(II)I"⟩
abbrev cX6_serveClaims : ByteArray := prog_1_method_28_code
def yX6_serveClaims : MethodName := ⟨RX6, "serveClaims", "(I)I"⟩
abbrev cX6_performActs : ByteArray := prog_1_method_29_code
def yX6_performActs : MethodName := ⟨RX6, "performActs", "()I"⟩
abbrev cX6_performAct : ByteArray := prog_1_method_30_code
def yX6_performAct : MethodName := ⟨RX6, "performAct", "(I)I"⟩
abbrev cX6_isAgent : ByteArray := prog_1_method_31_code
def yX6_isAgent : MethodName := ⟨RX6, "isAgent", "(I)Z"⟩
abbrev cX6_isCell : ByteArray := prog_1_method_32_code
def yX6_isCell : MethodName := ⟨RX6, "isCell", "(I)Z"⟩
def RX7 : String := "LentPartsModel"
def TX7 : u_T := fun k => match k with
  | 0 => ("LentPartsModel", "s", "[I", true)
  | 1 => ("LentPartsModel", "aside", "[I", true)
  | 2 => ("LentPartsModel", "asideToo", "[I", true)
  | 3 => ("LentPartsModel", "before", "[I", true)
  | 4 => ("LentPartsModel", "known", "I", false)
  | 5 => ("LentPartsModel", "kept", "[I", true)
  | 6 => ("LentPartsModel", "isKept", "Z", false)
  | 7 => ("LentPartsModel", "text", "[I", true)
  | 8 => ("LentPartsModel", "typed", "I", false)
  | 9 => ("LentPartsModel", "stoppedAt", "I", false)
  | 10 => ("LentPartsModel", "stoppedBy", "I", false)
  | 11 => ("LentPartsModel", "agents", "[I", true)
  | 12 => ("LentPartsModel", "ats", "[I", true)
  | 13 => ("LentPartsModel", "waits", "[Z", true)
  | 14 => ("LentPartsModel", "deep", "I", false)
  | 15 => ("LentPartsModel", "at", "I", false)
  | 16 => ("LentPartsModel", "isWrong", "Z", false)
  | 17 => ("LentPartsModel", "told", "[I", true)
  | 18 => ("LentPartsModel", "fault", "I", false)
  | _ => ("LentPartsModel", "ends", "[Z", true)
def tyX7 : Nat → FieldType := fun k => match k with
  | 0 => .array .int
  | 1 => .array .int
  | 2 => .array .int
  | 3 => .array .int
  | 4 => .int
  | 5 => .array .int
  | 6 => .boolean
  | 7 => .array .int
  | 8 => .int
  | 9 => .int
  | 10 => .int
  | 11 => .array .int
  | 12 => .array .int
  | 13 => .array .boolean
  | 14 => .int
  | 15 => .int
  | 16 => .boolean
  | 17 => .array .int
  | 18 => .int
  | _ => .array .boolean
abbrev wsX70 : List Cond := u_ws RX7 TX7 20
theorem nmX7 : ∀ a, a < 20 → ∀ b, b < 20 → a ≠ b → (TX7 a).2.1 ≠ (TX7 b).2.1 := by decide +kernel
theorem tyX7_ok : ∀ k, k < 20 → parseFieldDescriptor (TX7 k).2.2.1 = some (tyX7 k) := by decide +kernel
abbrev cX7_init : ByteArray := prog_9_method_1_code
def yX7_init : MethodName := ⟨RX7, "<init>", "()V"⟩
abbrev cX7_in : ByteArray := prog_9_method_3_code
def yX7_in : MethodName := ⟨RX7, "in", "(III)Z"⟩
abbrev cX7_held : ByteArray := prog_9_method_4_code
def yX7_held : MethodName := ⟨RX7, "held", "(II)I"⟩
abbrev cX7_holds : ByteArray := prog_9_method_5_code
def yX7_holds : MethodName := ⟨RX7, "holds", "(II)I"⟩
abbrev cX7_of : ByteArray := prog_9_method_6_code
def yX7_of : MethodName := ⟨RX7, "of", "(II)I"⟩
abbrev cX7_isAgent : ByteArray := prog_9_method_7_code
def yX7_isAgent : MethodName := ⟨RX7, "isAgent", "(I)Z"⟩
abbrev cX7_isCell : ByteArray := prog_9_method_8_code
def yX7_isCell : MethodName := ⟨RX7, "isCell", "(I)Z"⟩
abbrev cX7_areBoth : ByteArray := prog_9_method_9_code
def yX7_areBoth : MethodName := ⟨RX7, "areBoth", "(II)Z"⟩
abbrev cX7_know : ByteArray := prog_9_method_10_code
def yX7_know : MethodName := ⟨RX7, "know", "()V"⟩
abbrev cX7_putAside : ByteArray := prog_9_method_11_code
def yX7_putAside : MethodName := ⟨RX7, "putAside", "()V"⟩
abbrev cX7_putBack : ByteArray := prog_9_method_12_code
def yX7_putBack : MethodName := ⟨RX7, "putBack", "()V"⟩
abbrev cX7_placeOf : ByteArray := prog_9_method_13_code
def yX7_placeOf : MethodName := ⟨RX7, "placeOf", "(I)I"⟩
abbrev cX7_isFull : ByteArray := prog_9_method_14_code
def yX7_isFull : MethodName := ⟨RX7, "isFull", "()Z"⟩
abbrev cX7_lends : ByteArray := prog_9_method_15_code
def yX7_lends : MethodName := ⟨RX7, "lends", "(IIII)I"⟩
abbrev cX7_canGive : ByteArray := prog_9_method_16_code
def yX7_canGive : MethodName := ⟨RX7, "canGive", "(I)Z"⟩
abbrev cX7_gives : ByteArray := prog_9_method_17_code
def yX7_gives : MethodName := ⟨RX7, "gives", "(I)I"⟩
abbrev cX7_isGathering : ByteArray := prog_9_method_18_code
def yX7_isGathering : MethodName := ⟨RX7, "isGathering", "(I)Z"⟩
abbrev cX7_enter : ByteArray := prog_9_method_19_code
def yX7_enter : MethodName := ⟨RX7, "enter", "(I)V"⟩
abbrev cX7_latest : ByteArray := prog_9_method_20_code
def yX7_latest : MethodName := ⟨RX7, "latest", "(III)I"⟩
abbrev cX7_gathers : ByteArray := prog_9_method_21_code
def yX7_gathers : MethodName := ⟨RX7, "gathers", "(II)I"⟩
abbrev cX7_wouldGather : ByteArray := prog_9_method_22_code
def yX7_wouldGather : MethodName := ⟨RX7, "wouldGather", "(II)I"⟩
abbrev cX7_lendFault : ByteArray := prog_9_method_23_code
def yX7_lendFault : MethodName := ⟨RX7, "lendFault", "(IIII)I"⟩
abbrev cX7_backFault : ByteArray := prog_9_method_24_code
def yX7_backFault : MethodName := ⟨RX7, "backFault", "(I)I"⟩
abbrev cX7_writeFault : ByteArray := prog_9_method_25_code
def yX7_writeFault : MethodName := ⟨RX7, "writeFault", "(III)I"⟩
abbrev cX7_lend : ByteArray := prog_9_method_26_code
def yX7_lend : MethodName := ⟨RX7, "lend", "(IIII)I"⟩
abbrev cX7_half : ByteArray := prog_9_method_27_code
def yX7_half : MethodName := ⟨RX7, "half", "(III)I"⟩
abbrev cX7_giveBack : ByteArray := prog_9_method_28_code
def yX7_giveBack : MethodName := ⟨RX7, "giveBack", "(I)I"⟩
abbrev cX7_gather : ByteArray := prog_9_method_29_code
def yX7_gather : MethodName := ⟨RX7, "gather", "(II)I"⟩
abbrev cX7_hold : ByteArray := prog_9_method_30_code
def yX7_hold : MethodName := ⟨RX7, "hold", "(IIZ)I"⟩
abbrev cX7_writes : ByteArray := prog_9_method_31_code
def yX7_writes : MethodName := ⟨RX7, "writes", "(II)I"⟩
abbrev cX7_write : ByteArray := prog_9_method_32_code
def yX7_write : MethodName := ⟨RX7, "write", "(III)I"⟩
abbrev cX7_read : ByteArray := prog_9_method_33_code
def yX7_read : MethodName := ⟨RX7, "read", "(II)I"⟩
abbrev cX7_placeOfClaim : ByteArray := prog_9_method_34_code
def yX7_placeOfClaim : MethodName := ⟨RX7, "placeOfClaim", "(II)I"⟩
abbrev cX7_dropClaim : ByteArray := prog_9_method_35_code
def yX7_dropClaim : MethodName := ⟨RX7, "dropClaim", "(II)V"⟩
abbrev cX7_claim : ByteArray := prog_9_method_36_code
def yX7_claim : MethodName := ⟨RX7, "claim", "(IIZ)I"⟩
abbrev cX7_serves : ByteArray := prog_9_method_37_code
def yX7_serves : MethodName := ⟨RX7, "serves", "(I)I"⟩
abbrev cX7_serve : ByteArray := prog_9_method_38_code
def yX7_serve : MethodName := ⟨RX7, "serve", "(I)I"⟩
abbrev cX7_loansOf : ByteArray := prog_9_method_39_code
def yX7_loansOf : MethodName := ⟨RX7, "loansOf", "(I)I"⟩
abbrev cX7_handOver : ByteArray := prog_9_method_40_code
def yX7_handOver : MethodName := ⟨RX7, "handOver", "(II)I"⟩
abbrev cX7_type : ByteArray := prog_9_method_41_code
def yX7_type : MethodName := ⟨RX7, "type", "(C)I"⟩
abbrev cX7_clearText : ByteArray := prog_9_method_42_code
def yX7_clearText : MethodName := ⟨RX7, "clearText", "()I"⟩
abbrev cX7_sign : ByteArray := prog_9_method_43_code
def yX7_sign : MethodName := ⟨RX7, "sign", "(II)I"⟩
abbrev cX7_digit : ByteArray := prog_9_method_44_code
def yX7_digit : MethodName := ⟨RX7, "digit", "()I"⟩
abbrev cX7_number : ByteArray := prog_9_method_45_code
def yX7_number : MethodName := ⟨RX7, "number", "(II)I"⟩
abbrev cX7_order : ByteArray := prog_9_method_46_code
def yX7_order : MethodName := ⟨RX7, "order", "()V"⟩
abbrev cX7_does : ByteArray := prog_9_method_47_code
def yX7_does : MethodName := ⟨RX7, "does", "()I"⟩
abbrev cX7_go : ByteArray := prog_9_method_48_code
def yX7_go : MethodName := ⟨RX7, "go", "(Z)I"⟩
abbrev cX7_perform : ByteArray := prog_9_method_49_code
def yX7_perform : MethodName := ⟨RX7, "perform", "()I"⟩
abbrev cX7_stop : ByteArray := prog_9_method_50_code
def yX7_stop : MethodName := ⟨RX7, "stop", "(I)I"⟩
abbrev cX7_undo : ByteArray := prog_9_method_51_code
def yX7_undo : MethodName := ⟨RX7, "undo", "()I"⟩
abbrev cX7_keep : ByteArray := prog_9_method_52_code
def yX7_keep : MethodName := ⟨RX7, "keep", "()I"⟩
abbrev cX7_restore : ByteArray := prog_9_method_53_code
def yX7_restore : MethodName := ⟨RX7, "restore", "()I"⟩
abbrev cX7_agentsOf : ByteArray := prog_9_method_54_code
def yX7_agentsOf : MethodName := ⟨RX7, "agentsOf", "(II)I"⟩
abbrev cX7_wholeOf : ByteArray := prog_9_method_55_code
def yX7_wholeOf : MethodName := ⟨RX7, "wholeOf", "(I)I"⟩
abbrev cX7_cell : ByteArray := prog_9_method_56_code
def yX7_cell : MethodName := ⟨RX7, "cell", "(II)I"⟩
abbrev cX7_sum : ByteArray := prog_9_method_57_code
def yX7_sum : MethodName := ⟨RX7, "sum", "(III)I"⟩
abbrev cX7_part : ByteArray := prog_9_method_58_code
def yX7_part : MethodName := ⟨RX7, "part", "(III)I"⟩
abbrev cX7_loan : ByteArray := prog_9_method_59_code
def yX7_loan : MethodName := ⟨RX7, "loan", "(II)I"⟩
abbrev cX7_reason : ByteArray := prog_9_method_60_code
def yX7_reason : MethodName := ⟨RX7, "reason", "(II)I"⟩
abbrev cX7_chain : ByteArray := prog_9_method_61_code
def yX7_chain : MethodName := ⟨RX7, "chain", "(I)I"⟩
abbrev cX7_sumOfCells : ByteArray := prog_9_method_62_code
def yX7_sumOfCells : MethodName := ⟨RX7, "sumOfCells", "(I)I"⟩
abbrev cX7_count : ByteArray := prog_9_method_63_code
def yX7_count : MethodName := ⟨RX7, "count", "(I)I"⟩
def RJ6 : String := "java/lang/Integer"
def TJ6 : u_T := fun k => match k with
  | _ => ("", "", "", false)
def tyJ6 : Nat → FieldType := fun k => match k with
  | _ => .int
abbrev wsJ60 : List Cond := u_ws RJ6 TJ6 0
theorem nmJ6 : ∀ a, a < 0 → ∀ b, b < 0 → a ≠ b → (TJ6 a).2.1 ≠ (TJ6 b).2.1 := by decide +kernel
theorem tyJ6_ok : ∀ k, k < 0 → parseFieldDescriptor (TJ6 k).2.2.1 = some (tyJ6 k) := by decide +kernel
abbrev cJ6_bitCount_0f7a4 : ByteArray := prog_10_method_49_code
def yJ6_bitCount_0f7a4 : MethodName := ⟨RJ6, "bitCount", "(I)I"⟩
def RJ9 : String := "java/lang/Math"
def TJ9 : u_T := fun k => match k with
  | _ => ("", "", "", false)
def tyJ9 : Nat → FieldType := fun k => match k with
  | _ => .int
abbrev wsJ90 : List Cond := u_ws RJ9 TJ9 0
theorem nmJ9 : ∀ a, a < 0 → ∀ b, b < 0 → a ≠ b → (TJ9 a).2.1 ≠ (TJ9 b).2.1 := by decide +kernel
theorem tyJ9_ok : ∀ k, k < 0 → parseFieldDescriptor (TJ9 k).2.2.1 = some (tyJ9 k) := by decide +kernel
abbrev cJ9_max_7cf53 : ByteArray := prog_11_method_65_code
def yJ9_max_7cf53 : MethodName := ⟨RJ9, "max", "(II)I"⟩
abbrev cJ9_min_7cf53 : ByteArray := prog_11_method_69_code
def yJ9_min_7cf53 : MethodName := ⟨RJ9, "min", "(II)I"⟩
def RJ10 : String := "java/lang/System"
def TJ10 : u_T := fun k => match k with
  | _ => ("", "", "", false)
def tyJ10 : Nat → FieldType := fun k => match k with
  | _ => .int
abbrev wsJ100 : List Cond := u_ws RJ10 TJ10 0
theorem nmJ10 : ∀ a, a < 0 → ∀ b, b < 0 → a ≠ b → (TJ10 a).2.1 ≠ (TJ10 b).2.1 := by decide +kernel
theorem tyJ10_ok : ∀ k, k < 0 → parseFieldDescriptor (TJ10 k).2.2.1 = some (tyJ10 k) := by decide +kernel
def RJ7 : String := "java/util/Arrays"
def TJ7 : u_T := fun k => match k with
  | _ => ("", "", "", false)
def tyJ7 : Nat → FieldType := fun k => match k with
  | _ => .int
abbrev wsJ70 : List Cond := u_ws RJ7 TJ7 0
theorem nmJ7 : ∀ a, a < 0 → ∀ b, b < 0 → a ≠ b → (TJ7 a).2.1 ≠ (TJ7 b).2.1 := by decide +kernel
theorem tyJ7_ok : ∀ k, k < 0 → parseFieldDescriptor (TJ7 k).2.2.1 = some (tyJ7 k) := by decide +kernel
abbrev cJ7_fill_53178 : ByteArray := prog_13_method_103_code
def yJ7_fill_53178 : MethodName := ⟨RJ7, "fill", "([II)V"⟩
def RL : String := "LentPartsLaw"
abbrev cL_law : ByteArray := code
def yL_law : MethodName := ⟨RL, "law", "([I)Z"⟩
abbrev vwCl : List vw_C := [(RX0, TX0, 2), (RX1, TX1, 1), (RX2, TX2, 3), (RX3, TX3, 8), (RX4, TX4, 8), (RX5, TX5, 5), (RX6, TX6, 10), (RX7, TX7, 20)]
theorem inX0 : ∀ w ∈ wsX00, w ∈ lw_tbl := by decide +kernel
theorem inX1 : ∀ w ∈ wsX10, w ∈ lw_tbl := by decide +kernel
theorem inX2 : ∀ w ∈ wsX20, w ∈ lw_tbl := by decide +kernel
theorem inX3 : ∀ w ∈ wsX30, w ∈ lw_tbl := by decide +kernel
theorem inX4 : ∀ w ∈ wsX40, w ∈ lw_tbl := by decide +kernel
theorem inX5 : ∀ w ∈ wsX50, w ∈ lw_tbl := by decide +kernel
theorem inX6 : ∀ w ∈ wsX60, w ∈ lw_tbl := by decide +kernel
theorem inX7 : ∀ w ∈ wsX70, w ∈ lw_tbl := by decide +kernel
end
section
theorem dX0_init_0 : decode cX0_init 0 = .ok (.aload_n 0, 1) := by decide +kernel
theorem dX0_init_1 : decode cX0_init 1 = .ok (.invokespecial 3, 3) := by decide +kernel
theorem dX0_init_4 : decode cX0_init 4 = .ok (.aload_n 0, 1) := by decide +kernel
theorem dX0_init_5 : decode cX0_init 5 = .ok (.bipush 36, 2) := by decide +kernel
theorem dX0_init_7 : decode cX0_init 7 = .ok (.newarray .int, 2) := by decide +kernel
theorem dX0_init_9 : decode cX0_init 9 = .ok (.putfield 9, 3) := by decide +kernel
theorem dX0_init_12 : decode cX0_init 12 = .ok (.aload_n 0, 1) := by decide +kernel
theorem dX0_init_13 : decode cX0_init 13 = .ok (.bipush 6, 2) := by decide +kernel
theorem dX0_init_15 : decode cX0_init 15 = .ok (.newarray .int, 2) := by decide +kernel
theorem dX0_init_17 : decode cX0_init 17 = .ok (.putfield 15, 3) := by decide +kernel
theorem dX0_init_20 : decode cX0_init 20 = .ok (.return_, 1) := by decide +kernel
theorem dX0_copyFrom_0 : decode cX0_copyFrom 0 = .ok (.aload_n 1, 1) := by decide +kernel
theorem dX0_copyFrom_1 : decode cX0_copyFrom 1 = .ok (.getfield 9, 3) := by decide +kernel
theorem dX0_copyFrom_4 : decode cX0_copyFrom 4 = .ok (.iconst 0, 1) := by decide +kernel
theorem dX0_copyFrom_5 : decode cX0_copyFrom 5 = .ok (.aload_n 0, 1) := by decide +kernel
theorem dX0_copyFrom_6 : decode cX0_copyFrom 6 = .ok (.getfield 9, 3) := by decide +kernel
theorem dX0_copyFrom_9 : decode cX0_copyFrom 9 = .ok (.iconst 0, 1) := by decide +kernel
theorem dX0_copyFrom_10 : decode cX0_copyFrom 10 = .ok (.bipush 36, 2) := by decide +kernel
theorem dX0_copyFrom_12 : decode cX0_copyFrom 12 = .ok (.invokestatic 18, 3) := by decide +kernel
theorem dX0_copyFrom_15 : decode cX0_copyFrom 15 = .ok (.aload_n 1, 1) := by decide +kernel
theorem dX0_copyFrom_16 : decode cX0_copyFrom 16 = .ok (.getfield 15, 3) := by decide +kernel
theorem dX0_copyFrom_19 : decode cX0_copyFrom 19 = .ok (.iconst 0, 1) := by decide +kernel
theorem dX0_copyFrom_20 : decode cX0_copyFrom 20 = .ok (.aload_n 0, 1) := by decide +kernel
theorem dX0_copyFrom_21 : decode cX0_copyFrom 21 = .ok (.getfield 15, 3) := by decide +kernel
theorem dX0_copyFrom_24 : decode cX0_copyFrom 24 = .ok (.iconst 0, 1) := by decide +kernel
theorem dX0_copyFrom_25 : decode cX0_copyFrom 25 = .ok (.bipush 6, 2) := by decide +kernel
theorem dX0_copyFrom_27 : decode cX0_copyFrom 27 = .ok (.invokestatic 18, 3) := by decide +kernel
theorem dX0_copyFrom_30 : decode cX0_copyFrom 30 = .ok (.return_, 1) := by decide +kernel
theorem dX0_size_0 : decode cX0_size 0 = .ok (.aload_n 0, 1) := by decide +kernel
theorem dX0_size_1 : decode cX0_size 1 = .ok (.getfield 15, 3) := by decide +kernel
theorem dX0_size_4 : decode cX0_size 4 = .ok (.iload_n 1, 1) := by decide +kernel
theorem dX0_size_5 : decode cX0_size 5 = .ok (.iaload, 1) := by decide +kernel
theorem dX0_size_6 : decode cX0_size 6 = .ok (.ireturn, 1) := by decide +kernel
theorem dX0_sizeOfAll_0 : decode cX0_sizeOfAll 0 = .ok (.iconst 0, 1) := by decide +kernel
theorem dX0_sizeOfAll_1 : decode cX0_sizeOfAll 1 = .ok (.istore_n 1, 1) := by decide +kernel
theorem dX0_sizeOfAll_2 : decode cX0_sizeOfAll 2 = .ok (.iconst 0, 1) := by decide +kernel
theorem dX0_sizeOfAll_3 : decode cX0_sizeOfAll 3 = .ok (.istore_n 2, 1) := by decide +kernel
theorem dX0_sizeOfAll_4 : decode cX0_sizeOfAll 4 = .ok (.iload_n 2, 1) := by decide +kernel
theorem dX0_sizeOfAll_5 : decode cX0_sizeOfAll 5 = .ok (.bipush 6, 2) := by decide +kernel
theorem dX0_sizeOfAll_7 : decode cX0_sizeOfAll 7 = .ok (.if_icmp .ge 18, 3) := by decide +kernel
theorem dX0_sizeOfAll_10 : decode cX0_sizeOfAll 10 = .ok (.iload_n 1, 1) := by decide +kernel
theorem dX0_sizeOfAll_11 : decode cX0_sizeOfAll 11 = .ok (.aload_n 0, 1) := by decide +kernel
theorem dX0_sizeOfAll_12 : decode cX0_sizeOfAll 12 = .ok (.getfield 15, 3) := by decide +kernel
theorem dX0_sizeOfAll_15 : decode cX0_sizeOfAll 15 = .ok (.iload_n 2, 1) := by decide +kernel
theorem dX0_sizeOfAll_16 : decode cX0_sizeOfAll 16 = .ok (.iaload, 1) := by decide +kernel
theorem dX0_sizeOfAll_17 : decode cX0_sizeOfAll 17 = .ok (.iadd, 1) := by decide +kernel
theorem dX0_sizeOfAll_18 : decode cX0_sizeOfAll 18 = .ok (.istore_n 1, 1) := by decide +kernel
theorem dX0_sizeOfAll_19 : decode cX0_sizeOfAll 19 = .ok (.iinc 2 1, 3) := by decide +kernel
theorem dX0_sizeOfAll_22 : decode cX0_sizeOfAll 22 = .ok (.goto (-18), 3) := by decide +kernel
theorem dX0_sizeOfAll_25 : decode cX0_sizeOfAll 25 = .ok (.iload_n 1, 1) := by decide +kernel
theorem dX0_sizeOfAll_26 : decode cX0_sizeOfAll 26 = .ok (.ireturn, 1) := by decide +kernel
theorem dX0_first_0 : decode cX0_first 0 = .ok (.aload_n 0, 1) := by decide +kernel
theorem dX0_first_1 : decode cX0_first 1 = .ok (.getfield 15, 3) := by decide +kernel
theorem dX0_first_4 : decode cX0_first 4 = .ok (.iload_n 1, 1) := by decide +kernel
theorem dX0_first_5 : decode cX0_first 5 = .ok (.iaload, 1) := by decide +kernel
theorem dX0_first_6 : decode cX0_first 6 = .ok (.ifCond .ne 8, 3) := by decide +kernel
theorem dX0_first_9 : decode cX0_first 9 = .ok (.bipush (-5), 2) := by decide +kernel
theorem dX0_first_11 : decode cX0_first 11 = .ok (.goto 12, 3) := by decide +kernel
theorem dX0_first_14 : decode cX0_first 14 = .ok (.aload_n 0, 1) := by decide +kernel
theorem dX0_first_15 : decode cX0_first 15 = .ok (.getfield 9, 3) := by decide +kernel
theorem dX0_first_18 : decode cX0_first 18 = .ok (.iload_n 1, 1) := by decide +kernel
theorem dX0_first_19 : decode cX0_first 19 = .ok (.bipush 6, 2) := by decide +kernel
theorem dX0_first_21 : decode cX0_first 21 = .ok (.imul, 1) := by decide +kernel
theorem dX0_first_22 : decode cX0_first 22 = .ok (.iaload, 1) := by decide +kernel
theorem dX0_first_23 : decode cX0_first 23 = .ok (.ireturn, 1) := by decide +kernel
theorem dX0_placeOf_0 : decode cX0_placeOf 0 = .ok (.iconst 0, 1) := by decide +kernel
theorem dX0_placeOf_1 : decode cX0_placeOf 1 = .ok (.istore_n 3, 1) := by decide +kernel
theorem dX0_placeOf_2 : decode cX0_placeOf 2 = .ok (.iload_n 3, 1) := by decide +kernel
theorem dX0_placeOf_3 : decode cX0_placeOf 3 = .ok (.aload_n 0, 1) := by decide +kernel
theorem dX0_placeOf_4 : decode cX0_placeOf 4 = .ok (.getfield 15, 3) := by decide +kernel
theorem dX0_placeOf_7 : decode cX0_placeOf 7 = .ok (.iload_n 2, 1) := by decide +kernel
theorem dX0_placeOf_8 : decode cX0_placeOf 8 = .ok (.iaload, 1) := by decide +kernel
theorem dX0_placeOf_9 : decode cX0_placeOf 9 = .ok (.if_icmp .ge 26, 3) := by decide +kernel
theorem dX0_placeOf_12 : decode cX0_placeOf 12 = .ok (.aload_n 0, 1) := by decide +kernel
theorem dX0_placeOf_13 : decode cX0_placeOf 13 = .ok (.getfield 9, 3) := by decide +kernel
theorem dX0_placeOf_16 : decode cX0_placeOf 16 = .ok (.iload_n 2, 1) := by decide +kernel
theorem dX0_placeOf_17 : decode cX0_placeOf 17 = .ok (.bipush 6, 2) := by decide +kernel
theorem dX0_placeOf_19 : decode cX0_placeOf 19 = .ok (.imul, 1) := by decide +kernel
theorem dX0_placeOf_20 : decode cX0_placeOf 20 = .ok (.iload_n 3, 1) := by decide +kernel
theorem dX0_placeOf_21 : decode cX0_placeOf 21 = .ok (.iadd, 1) := by decide +kernel
theorem dX0_placeOf_22 : decode cX0_placeOf 22 = .ok (.iaload, 1) := by decide +kernel
theorem dX0_placeOf_23 : decode cX0_placeOf 23 = .ok (.iload_n 1, 1) := by decide +kernel
theorem dX0_placeOf_24 : decode cX0_placeOf 24 = .ok (.if_icmp .ne 5, 3) := by decide +kernel
theorem dX0_placeOf_27 : decode cX0_placeOf 27 = .ok (.iload_n 3, 1) := by decide +kernel
theorem dX0_placeOf_28 : decode cX0_placeOf 28 = .ok (.ireturn, 1) := by decide +kernel
theorem dX0_placeOf_29 : decode cX0_placeOf 29 = .ok (.iinc 3 1, 3) := by decide +kernel
theorem dX0_placeOf_32 : decode cX0_placeOf 32 = .ok (.goto (-30), 3) := by decide +kernel
theorem dX0_placeOf_35 : decode cX0_placeOf 35 = .ok (.bipush (-5), 2) := by decide +kernel
theorem dX0_placeOf_37 : decode cX0_placeOf 37 = .ok (.ireturn, 1) := by decide +kernel
theorem dX0_append_0 : decode cX0_append 0 = .ok (.aload_n 0, 1) := by decide +kernel
theorem dX0_append_1 : decode cX0_append 1 = .ok (.getfield 9, 3) := by decide +kernel
theorem dX0_append_4 : decode cX0_append 4 = .ok (.iload_n 2, 1) := by decide +kernel
theorem dX0_append_5 : decode cX0_append 5 = .ok (.bipush 6, 2) := by decide +kernel
theorem dX0_append_7 : decode cX0_append 7 = .ok (.imul, 1) := by decide +kernel
theorem dX0_append_8 : decode cX0_append 8 = .ok (.aload_n 0, 1) := by decide +kernel
theorem dX0_append_9 : decode cX0_append 9 = .ok (.getfield 15, 3) := by decide +kernel
theorem dX0_append_12 : decode cX0_append 12 = .ok (.iload_n 2, 1) := by decide +kernel
theorem dX0_append_13 : decode cX0_append 13 = .ok (.iaload, 1) := by decide +kernel
theorem dX0_append_14 : decode cX0_append 14 = .ok (.iadd, 1) := by decide +kernel
theorem dX0_append_15 : decode cX0_append 15 = .ok (.iload_n 1, 1) := by decide +kernel
theorem dX0_append_16 : decode cX0_append 16 = .ok (.iastore, 1) := by decide +kernel
theorem dX0_append_17 : decode cX0_append 17 = .ok (.aload_n 0, 1) := by decide +kernel
theorem dX0_append_18 : decode cX0_append 18 = .ok (.getfield 15, 3) := by decide +kernel
theorem dX0_append_21 : decode cX0_append 21 = .ok (.iload_n 2, 1) := by decide +kernel
theorem dX0_append_22 : decode cX0_append 22 = .ok (.dup2, 1) := by decide +kernel
theorem dX0_append_23 : decode cX0_append 23 = .ok (.iaload, 1) := by decide +kernel
theorem dX0_append_24 : decode cX0_append 24 = .ok (.iconst 1, 1) := by decide +kernel
theorem dX0_append_25 : decode cX0_append 25 = .ok (.iadd, 1) := by decide +kernel
theorem dX0_append_26 : decode cX0_append 26 = .ok (.iastore, 1) := by decide +kernel
theorem dX0_append_27 : decode cX0_append 27 = .ok (.return_, 1) := by decide +kernel
theorem dX0_remove_0 : decode cX0_remove 0 = .ok (.iload_n 1, 1) := by decide +kernel
theorem dX0_remove_1 : decode cX0_remove 1 = .ok (.bipush 6, 2) := by decide +kernel
theorem dX0_remove_3 : decode cX0_remove 3 = .ok (.imul, 1) := by decide +kernel
theorem dX0_remove_4 : decode cX0_remove 4 = .ok (.istore_n 3, 1) := by decide +kernel
theorem dX0_remove_5 : decode cX0_remove 5 = .ok (.aload_n 0, 1) := by decide +kernel
theorem dX0_remove_6 : decode cX0_remove 6 = .ok (.getfield 15, 3) := by decide +kernel
theorem dX0_remove_9 : decode cX0_remove 9 = .ok (.iload_n 1, 1) := by decide +kernel
theorem dX0_remove_10 : decode cX0_remove 10 = .ok (.dup2, 1) := by decide +kernel
theorem dX0_remove_11 : decode cX0_remove 11 = .ok (.iaload, 1) := by decide +kernel
theorem dX0_remove_12 : decode cX0_remove 12 = .ok (.iconst 1, 1) := by decide +kernel
theorem dX0_remove_13 : decode cX0_remove 13 = .ok (.isub, 1) := by decide +kernel
theorem dX0_remove_14 : decode cX0_remove 14 = .ok (.iastore, 1) := by decide +kernel
theorem dX0_remove_15 : decode cX0_remove 15 = .ok (.iload_n 2, 1) := by decide +kernel
theorem dX0_remove_16 : decode cX0_remove 16 = .ok (.istore 4, 2) := by decide +kernel
theorem dX0_remove_18 : decode cX0_remove 18 = .ok (.iload 4, 2) := by decide +kernel
theorem dX0_remove_20 : decode cX0_remove 20 = .ok (.aload_n 0, 1) := by decide +kernel
theorem dX0_remove_21 : decode cX0_remove 21 = .ok (.getfield 15, 3) := by decide +kernel
theorem dX0_remove_24 : decode cX0_remove 24 = .ok (.iload_n 1, 1) := by decide +kernel
theorem dX0_remove_25 : decode cX0_remove 25 = .ok (.iaload, 1) := by decide +kernel
theorem dX0_remove_26 : decode cX0_remove 26 = .ok (.if_icmp .ge 29, 3) := by decide +kernel
theorem dX0_remove_29 : decode cX0_remove 29 = .ok (.aload_n 0, 1) := by decide +kernel
theorem dX0_remove_30 : decode cX0_remove 30 = .ok (.getfield 9, 3) := by decide +kernel
theorem dX0_remove_33 : decode cX0_remove 33 = .ok (.iload_n 3, 1) := by decide +kernel
theorem dX0_remove_34 : decode cX0_remove 34 = .ok (.iload 4, 2) := by decide +kernel
theorem dX0_remove_36 : decode cX0_remove 36 = .ok (.iadd, 1) := by decide +kernel
theorem dX0_remove_37 : decode cX0_remove 37 = .ok (.aload_n 0, 1) := by decide +kernel
theorem dX0_remove_38 : decode cX0_remove 38 = .ok (.getfield 9, 3) := by decide +kernel
theorem dX0_remove_41 : decode cX0_remove 41 = .ok (.iload_n 3, 1) := by decide +kernel
theorem dX0_remove_42 : decode cX0_remove 42 = .ok (.iload 4, 2) := by decide +kernel
theorem dX0_remove_44 : decode cX0_remove 44 = .ok (.iadd, 1) := by decide +kernel
theorem dX0_remove_45 : decode cX0_remove 45 = .ok (.iconst 1, 1) := by decide +kernel
theorem dX0_remove_46 : decode cX0_remove 46 = .ok (.iadd, 1) := by decide +kernel
theorem dX0_remove_47 : decode cX0_remove 47 = .ok (.iaload, 1) := by decide +kernel
theorem dX0_remove_48 : decode cX0_remove 48 = .ok (.iastore, 1) := by decide +kernel
theorem dX0_remove_49 : decode cX0_remove 49 = .ok (.iinc 4 1, 3) := by decide +kernel
theorem dX0_remove_52 : decode cX0_remove 52 = .ok (.goto (-34), 3) := by decide +kernel
theorem dX0_remove_55 : decode cX0_remove 55 = .ok (.return_, 1) := by decide +kernel
theorem dX1_init_0 : decode cX1_init 0 = .ok (.aload_n 0, 1) := by decide +kernel
theorem dX1_init_1 : decode cX1_init 1 = .ok (.invokespecial 3, 3) := by decide +kernel
theorem dX1_init_4 : decode cX1_init 4 = .ok (.aload_n 0, 1) := by decide +kernel
theorem dX1_init_5 : decode cX1_init 5 = .ok (.sipush 384, 3) := by decide +kernel
theorem dX1_init_8 : decode cX1_init 8 = .ok (.newarray .int, 2) := by decide +kernel
theorem dX1_init_10 : decode cX1_init 10 = .ok (.putfield 9, 3) := by decide +kernel
theorem dX1_init_13 : decode cX1_init 13 = .ok (.return_, 1) := by decide +kernel
theorem dX1_run_0 : decode cX1_run 0 = .ok (.aload_n 0, 1) := by decide +kernel
theorem dX1_run_1 : decode cX1_run 1 = .ok (.getfield 9, 3) := by decide +kernel
theorem dX1_run_4 : decode cX1_run 4 = .ok (.iconst (-1), 1) := by decide +kernel
theorem dX1_run_5 : decode cX1_run 5 = .ok (.invokestatic 15, 3) := by decide +kernel
theorem dX1_run_8 : decode cX1_run 8 = .ok (.aload_n 1, 1) := by decide +kernel
theorem dX1_run_9 : decode cX1_run 9 = .ok (.getfield 21, 3) := by decide +kernel
theorem dX1_run_12 : decode cX1_run 12 = .ok (.getfield 27, 3) := by decide +kernel
theorem dX1_run_15 : decode cX1_run 15 = .ok (.istore 4, 2) := by decide +kernel
theorem dX1_run_17 : decode cX1_run 17 = .ok (.aload_n 0, 1) := by decide +kernel
theorem dX1_run_18 : decode cX1_run 18 = .ok (.aload_n 1, 1) := by decide +kernel
theorem dX1_run_19 : decode cX1_run 19 = .ok (.iload_n 2, 1) := by decide +kernel
theorem dX1_run_20 : decode cX1_run 20 = .ok (.iload_n 3, 1) := by decide +kernel
theorem dX1_run_21 : decode cX1_run 21 = .ok (.iconst 0, 1) := by decide +kernel
theorem dX1_run_22 : decode cX1_run 22 = .ok (.iconst 0, 1) := by decide +kernel
theorem dX1_run_23 : decode cX1_run 23 = .ok (.invokevirtual 33, 3) := by decide +kernel
theorem dX1_run_26 : decode cX1_run 26 = .ok (.aload_n 1, 1) := by decide +kernel
theorem dX1_run_27 : decode cX1_run 27 = .ok (.getfield 21, 3) := by decide +kernel
theorem dX1_run_30 : decode cX1_run 30 = .ok (.getfield 27, 3) := by decide +kernel
theorem dX1_run_33 : decode cX1_run 33 = .ok (.iload 4, 2) := by decide +kernel
theorem dX1_run_35 : decode cX1_run 35 = .ok (.isub, 1) := by decide +kernel
theorem dX1_run_36 : decode cX1_run 36 = .ok (.ireturn, 1) := by decide +kernel
theorem dX1_gatherFor_0 : decode cX1_gatherFor 0 = .ok (.aload_n 1, 1) := by decide +kernel
theorem dX1_gatherFor_1 : decode cX1_gatherFor 1 = .ok (.getfield 21, 3) := by decide +kernel
theorem dX1_gatherFor_4 : decode cX1_gatherFor 4 = .ok (.astore 6, 2) := by decide +kernel
theorem dX1_gatherFor_6 : decode cX1_gatherFor 6 = .ok (.aload 6, 2) := by decide +kernel
theorem dX1_gatherFor_8 : decode cX1_gatherFor 8 = .ok (.getfield 27, 3) := by decide +kernel
theorem dX1_gatherFor_11 : decode cX1_gatherFor 11 = .ok (.istore 7, 2) := by decide +kernel
theorem dX1_gatherFor_13 : decode cX1_gatherFor 13 = .ok (.iload 4, 2) := by decide +kernel
theorem dX1_gatherFor_15 : decode cX1_gatherFor 15 = .ok (.bipush 6, 2) := by decide +kernel
theorem dX1_gatherFor_17 : decode cX1_gatherFor 17 = .ok (.imul, 1) := by decide +kernel
theorem dX1_gatherFor_18 : decode cX1_gatherFor 18 = .ok (.iload_n 2, 1) := by decide +kernel
theorem dX1_gatherFor_19 : decode cX1_gatherFor 19 = .ok (.iadd, 1) := by decide +kernel
theorem dX1_gatherFor_20 : decode cX1_gatherFor 20 = .ok (.istore 8, 2) := by decide +kernel
theorem dX1_gatherFor_22 : decode cX1_gatherFor 22 = .ok (.iload 5, 2) := by decide +kernel
theorem dX1_gatherFor_24 : decode cX1_gatherFor 24 = .ok (.bipush 6, 2) := by decide +kernel
theorem dX1_gatherFor_26 : decode cX1_gatherFor 26 = .ok (.if_icmp .ge 15, 3) := by decide +kernel
theorem dX1_gatherFor_29 : decode cX1_gatherFor 29 = .ok (.aload_n 0, 1) := by decide +kernel
theorem dX1_gatherFor_30 : decode cX1_gatherFor 30 = .ok (.getfield 9, 3) := by decide +kernel
theorem dX1_gatherFor_33 : decode cX1_gatherFor 33 = .ok (.iload 8, 2) := by decide +kernel
theorem dX1_gatherFor_35 : decode cX1_gatherFor 35 = .ok (.iaload, 1) := by decide +kernel
theorem dX1_gatherFor_36 : decode cX1_gatherFor 36 = .ok (.iload 7, 2) := by decide +kernel
theorem dX1_gatherFor_38 : decode cX1_gatherFor 38 = .ok (.if_icmp .ne 4, 3) := by decide +kernel
theorem dX1_gatherFor_41 : decode cX1_gatherFor 41 = .ok (.return_, 1) := by decide +kernel
theorem dX1_gatherFor_42 : decode cX1_gatherFor 42 = .ok (.aload 6, 2) := by decide +kernel
theorem dX1_gatherFor_44 : decode cX1_gatherFor 44 = .ok (.sipush 1000, 3) := by decide +kernel
theorem dX1_gatherFor_47 : decode cX1_gatherFor 47 = .ok (.iload_n 2, 1) := by decide +kernel
theorem dX1_gatherFor_48 : decode cX1_gatherFor 48 = .ok (.iload_n 3, 1) := by decide +kernel
theorem dX1_gatherFor_49 : decode cX1_gatherFor 49 = .ok (.invokevirtual 37, 3) := by decide +kernel
theorem dX1_gatherFor_52 : decode cX1_gatherFor 52 = .ok (.istore 9, 2) := by decide +kernel
theorem dX1_gatherFor_54 : decode cX1_gatherFor 54 = .ok (.iconst 0, 1) := by decide +kernel
theorem dX1_gatherFor_55 : decode cX1_gatherFor 55 = .ok (.istore 10, 2) := by decide +kernel
theorem dX1_gatherFor_57 : decode cX1_gatherFor 57 = .ok (.iload 10, 2) := by decide +kernel
theorem dX1_gatherFor_59 : decode cX1_gatherFor 59 = .ok (.bipush 40, 2) := by decide +kernel
theorem dX1_gatherFor_61 : decode cX1_gatherFor 61 = .ok (.if_icmp .ge 40, 3) := by decide +kernel
theorem dX1_gatherFor_64 : decode cX1_gatherFor 64 = .ok (.iload 9, 2) := by decide +kernel
theorem dX1_gatherFor_66 : decode cX1_gatherFor 66 = .ok (.ifCond .lt 35, 3) := by decide +kernel
theorem dX1_gatherFor_69 : decode cX1_gatherFor 69 = .ok (.aload_n 0, 1) := by decide +kernel
theorem dX1_gatherFor_70 : decode cX1_gatherFor 70 = .ok (.aload_n 1, 1) := by decide +kernel
theorem dX1_gatherFor_71 : decode cX1_gatherFor 71 = .ok (.iload 9, 2) := by decide +kernel
theorem dX1_gatherFor_73 : decode cX1_gatherFor 73 = .ok (.iload 4, 2) := by decide +kernel
theorem dX1_gatherFor_75 : decode cX1_gatherFor 75 = .ok (.iconst 1, 1) := by decide +kernel
theorem dX1_gatherFor_76 : decode cX1_gatherFor 76 = .ok (.iload_n 2, 1) := by decide +kernel
theorem dX1_gatherFor_77 : decode cX1_gatherFor 77 = .ok (.ishl, 1) := by decide +kernel
theorem dX1_gatherFor_78 : decode cX1_gatherFor 78 = .ok (.ior, 1) := by decide +kernel
theorem dX1_gatherFor_79 : decode cX1_gatherFor 79 = .ok (.iload 5, 2) := by decide +kernel
theorem dX1_gatherFor_81 : decode cX1_gatherFor 81 = .ok (.invokevirtual 41, 3) := by decide +kernel
theorem dX1_gatherFor_84 : decode cX1_gatherFor 84 = .ok (.aload 6, 2) := by decide +kernel
theorem dX1_gatherFor_86 : decode cX1_gatherFor 86 = .ok (.iload 9, 2) := by decide +kernel
theorem dX1_gatherFor_88 : decode cX1_gatherFor 88 = .ok (.iload_n 2, 1) := by decide +kernel
theorem dX1_gatherFor_89 : decode cX1_gatherFor 89 = .ok (.iload_n 3, 1) := by decide +kernel
theorem dX1_gatherFor_90 : decode cX1_gatherFor 90 = .ok (.invokevirtual 37, 3) := by decide +kernel
theorem dX1_gatherFor_93 : decode cX1_gatherFor 93 = .ok (.istore 9, 2) := by decide +kernel
theorem dX1_gatherFor_95 : decode cX1_gatherFor 95 = .ok (.iinc 10 1, 3) := by decide +kernel
theorem dX1_gatherFor_98 : decode cX1_gatherFor 98 = .ok (.goto (-41), 3) := by decide +kernel
theorem dX1_gatherFor_101 : decode cX1_gatherFor 101 = .ok (.aload 6, 2) := by decide +kernel
theorem dX1_gatherFor_103 : decode cX1_gatherFor 103 = .ok (.getfield 27, 3) := by decide +kernel
theorem dX1_gatherFor_106 : decode cX1_gatherFor 106 = .ok (.iload 7, 2) := by decide +kernel
theorem dX1_gatherFor_108 : decode cX1_gatherFor 108 = .ok (.if_icmp .ne 12, 3) := by decide +kernel
theorem dX1_gatherFor_111 : decode cX1_gatherFor 111 = .ok (.aload_n 0, 1) := by decide +kernel
theorem dX1_gatherFor_112 : decode cX1_gatherFor 112 = .ok (.getfield 9, 3) := by decide +kernel
theorem dX1_gatherFor_115 : decode cX1_gatherFor 115 = .ok (.iload 8, 2) := by decide +kernel
theorem dX1_gatherFor_117 : decode cX1_gatherFor 117 = .ok (.iload 7, 2) := by decide +kernel
theorem dX1_gatherFor_119 : decode cX1_gatherFor 119 = .ok (.iastore, 1) := by decide +kernel
theorem dX1_gatherFor_120 : decode cX1_gatherFor 120 = .ok (.return_, 1) := by decide +kernel
theorem dX1_callIn_0 : decode cX1_callIn 0 = .ok (.aload_n 1, 1) := by decide +kernel
theorem dX1_callIn_1 : decode cX1_callIn 1 = .ok (.getfield 21, 3) := by decide +kernel
theorem dX1_callIn_4 : decode cX1_callIn 4 = .ok (.astore 5, 2) := by decide +kernel
theorem dX1_callIn_6 : decode cX1_callIn 6 = .ok (.aload 5, 2) := by decide +kernel
theorem dX1_callIn_8 : decode cX1_callIn 8 = .ok (.iload_n 2, 1) := by decide +kernel
theorem dX1_callIn_9 : decode cX1_callIn 9 = .ok (.invokevirtual 45, 3) := by decide +kernel
theorem dX1_callIn_12 : decode cX1_callIn 12 = .ok (.istore 6, 2) := by decide +kernel
theorem dX1_callIn_14 : decode cX1_callIn 14 = .ok (.iload 6, 2) := by decide +kernel
theorem dX1_callIn_16 : decode cX1_callIn 16 = .ok (.ifCond .ge 4, 3) := by decide +kernel
theorem dX1_callIn_19 : decode cX1_callIn 19 = .ok (.return_, 1) := by decide +kernel
theorem dX1_callIn_20 : decode cX1_callIn 20 = .ok (.aload 5, 2) := by decide +kernel
theorem dX1_callIn_22 : decode cX1_callIn 22 = .ok (.getfield 49, 3) := by decide +kernel
theorem dX1_callIn_25 : decode cX1_callIn 25 = .ok (.iload 6, 2) := by decide +kernel
theorem dX1_callIn_27 : decode cX1_callIn 27 = .ok (.iaload, 1) := by decide +kernel
theorem dX1_callIn_28 : decode cX1_callIn 28 = .ok (.istore 7, 2) := by decide +kernel
theorem dX1_callIn_30 : decode cX1_callIn 30 = .ok (.aload 5, 2) := by decide +kernel
theorem dX1_callIn_32 : decode cX1_callIn 32 = .ok (.getfield 52, 3) := by decide +kernel
theorem dX1_callIn_35 : decode cX1_callIn 35 = .ok (.iload 6, 2) := by decide +kernel
theorem dX1_callIn_37 : decode cX1_callIn 37 = .ok (.iaload, 1) := by decide +kernel
theorem dX1_callIn_38 : decode cX1_callIn 38 = .ok (.istore 8, 2) := by decide +kernel
theorem dX1_callIn_40 : decode cX1_callIn 40 = .ok (.iload_n 3, 1) := by decide +kernel
theorem dX1_callIn_41 : decode cX1_callIn 41 = .ok (.iload 7, 2) := by decide +kernel
theorem dX1_callIn_43 : decode cX1_callIn 43 = .ok (.ishr, 1) := by decide +kernel
theorem dX1_callIn_44 : decode cX1_callIn 44 = .ok (.iconst 1, 1) := by decide +kernel
theorem dX1_callIn_45 : decode cX1_callIn 45 = .ok (.iand, 1) := by decide +kernel
theorem dX1_callIn_46 : decode cX1_callIn 46 = .ok (.ifCond .eq 7, 3) := by decide +kernel
theorem dX1_callIn_49 : decode cX1_callIn 49 = .ok (.iconst 1, 1) := by decide +kernel
theorem dX1_callIn_50 : decode cX1_callIn 50 = .ok (.goto 4, 3) := by decide +kernel
theorem dX1_callIn_53 : decode cX1_callIn 53 = .ok (.iconst 0, 1) := by decide +kernel
theorem dX1_callIn_54 : decode cX1_callIn 54 = .ok (.istore 9, 2) := by decide +kernel
theorem dX1_callIn_56 : decode cX1_callIn 56 = .ok (.iload 9, 2) := by decide +kernel
theorem dX1_callIn_58 : decode cX1_callIn 58 = .ok (.ifCond .ne 44, 3) := by decide +kernel
theorem dX1_callIn_61 : decode cX1_callIn 61 = .ok (.aload_n 1, 1) := by decide +kernel
theorem dX1_callIn_62 : decode cX1_callIn 62 = .ok (.iload 7, 2) := by decide +kernel
theorem dX1_callIn_64 : decode cX1_callIn 64 = .ok (.iload 8, 2) := by decide +kernel
theorem dX1_callIn_66 : decode cX1_callIn 66 = .ok (.invokevirtual 55, 3) := by decide +kernel
theorem dX1_callIn_69 : decode cX1_callIn 69 = .ok (.aload 5, 2) := by decide +kernel
theorem dX1_callIn_71 : decode cX1_callIn 71 = .ok (.getfield 59, 3) := by decide +kernel
theorem dX1_callIn_74 : decode cX1_callIn 74 = .ok (.iload 6, 2) := by decide +kernel
theorem dX1_callIn_76 : decode cX1_callIn 76 = .ok (.iaload, 1) := by decide +kernel
theorem dX1_callIn_77 : decode cX1_callIn 77 = .ok (.if_icmp .ge 25, 3) := by decide +kernel
theorem dX1_callIn_80 : decode cX1_callIn 80 = .ok (.aload_n 0, 1) := by decide +kernel
theorem dX1_callIn_81 : decode cX1_callIn 81 = .ok (.aload_n 1, 1) := by decide +kernel
theorem dX1_callIn_82 : decode cX1_callIn 82 = .ok (.iload 7, 2) := by decide +kernel
theorem dX1_callIn_84 : decode cX1_callIn 84 = .ok (.iload 8, 2) := by decide +kernel
theorem dX1_callIn_86 : decode cX1_callIn 86 = .ok (.iload_n 3, 1) := by decide +kernel
theorem dX1_callIn_87 : decode cX1_callIn 87 = .ok (.iload 4, 2) := by decide +kernel
theorem dX1_callIn_89 : decode cX1_callIn 89 = .ok (.iconst 1, 1) := by decide +kernel
theorem dX1_callIn_90 : decode cX1_callIn 90 = .ok (.iadd, 1) := by decide +kernel
theorem dX1_callIn_91 : decode cX1_callIn 91 = .ok (.invokevirtual 33, 3) := by decide +kernel
theorem dX1_callIn_94 : decode cX1_callIn 94 = .ok (.aload 5, 2) := by decide +kernel
theorem dX1_callIn_96 : decode cX1_callIn 96 = .ok (.iload_n 2, 1) := by decide +kernel
theorem dX1_callIn_97 : decode cX1_callIn 97 = .ok (.invokevirtual 45, 3) := by decide +kernel
theorem dX1_callIn_100 : decode cX1_callIn 100 = .ok (.istore 6, 2) := by decide +kernel
theorem dX1_callIn_102 : decode cX1_callIn 102 = .ok (.iload 6, 2) := by decide +kernel
theorem dX1_callIn_104 : decode cX1_callIn 104 = .ok (.ifCond .lt 18, 3) := by decide +kernel
theorem dX1_callIn_107 : decode cX1_callIn 107 = .ok (.aload_n 1, 1) := by decide +kernel
theorem dX1_callIn_108 : decode cX1_callIn 108 = .ok (.iload 6, 2) := by decide +kernel
theorem dX1_callIn_110 : decode cX1_callIn 110 = .ok (.invokevirtual 62, 3) := by decide +kernel
theorem dX1_callIn_113 : decode cX1_callIn 113 = .ok (.ifCond .eq 9, 3) := by decide +kernel
theorem dX1_callIn_116 : decode cX1_callIn 116 = .ok (.aload_n 1, 1) := by decide +kernel
theorem dX1_callIn_117 : decode cX1_callIn 117 = .ok (.iload 6, 2) := by decide +kernel
theorem dX1_callIn_119 : decode cX1_callIn 119 = .ok (.invokevirtual 66, 3) := by decide +kernel
theorem dX1_callIn_122 : decode cX1_callIn 122 = .ok (.return_, 1) := by decide +kernel
theorem dX2_init_0 : decode cX2_init 0 = .ok (.aload_n 0, 1) := by decide +kernel
theorem dX2_init_1 : decode cX2_init 1 = .ok (.invokespecial 3, 3) := by decide +kernel
theorem dX2_init_4 : decode cX2_init 4 = .ok (.aload_n 0, 1) := by decide +kernel
theorem dX2_init_5 : decode cX2_init 5 = .ok (.iconst 5, 1) := by decide +kernel
theorem dX2_init_6 : decode cX2_init 6 = .ok (.anewarray 11, 3) := by decide +kernel
theorem dX2_init_9 : decode cX2_init 9 = .ok (.putfield 13, 3) := by decide +kernel
theorem dX2_init_12 : decode cX2_init 12 = .ok (.iconst 0, 1) := by decide +kernel
theorem dX2_init_13 : decode cX2_init 13 = .ok (.istore_n 1, 1) := by decide +kernel
theorem dX2_init_14 : decode cX2_init 14 = .ok (.iload_n 1, 1) := by decide +kernel
theorem dX2_init_15 : decode cX2_init 15 = .ok (.iconst 5, 1) := by decide +kernel
theorem dX2_init_16 : decode cX2_init 16 = .ok (.if_icmp .ge 22, 3) := by decide +kernel
theorem dX2_init_19 : decode cX2_init 19 = .ok (.aload_n 0, 1) := by decide +kernel
theorem dX2_init_20 : decode cX2_init 20 = .ok (.getfield 13, 3) := by decide +kernel
theorem dX2_init_23 : decode cX2_init 23 = .ok (.iload_n 1, 1) := by decide +kernel
theorem dX2_init_24 : decode cX2_init 24 = .ok (.new 11, 3) := by decide +kernel
theorem dX2_init_27 : decode cX2_init 27 = .ok (.dup, 1) := by decide +kernel
theorem dX2_init_28 : decode cX2_init 28 = .ok (.invokespecial 17, 3) := by decide +kernel
theorem dX2_init_31 : decode cX2_init 31 = .ok (.aastore, 1) := by decide +kernel
theorem dX2_init_32 : decode cX2_init 32 = .ok (.iinc 1 1, 3) := by decide +kernel
theorem dX2_init_35 : decode cX2_init 35 = .ok (.goto (-21), 3) := by decide +kernel
theorem dX2_init_38 : decode cX2_init 38 = .ok (.return_, 1) := by decide +kernel
theorem dX2_size_0 : decode cX2_size 0 = .ok (.aload_n 0, 1) := by decide +kernel
theorem dX2_size_1 : decode cX2_size 1 = .ok (.getfield 18, 3) := by decide +kernel
theorem dX2_size_4 : decode cX2_size 4 = .ok (.ireturn, 1) := by decide +kernel
theorem dX2_open_0 : decode cX2_open 0 = .ok (.aload_n 0, 1) := by decide +kernel
theorem dX2_open_1 : decode cX2_open 1 = .ok (.getfield 13, 3) := by decide +kernel
theorem dX2_open_4 : decode cX2_open 4 = .ok (.aload_n 0, 1) := by decide +kernel
theorem dX2_open_5 : decode cX2_open 5 = .ok (.getfield 22, 3) := by decide +kernel
theorem dX2_open_8 : decode cX2_open 8 = .ok (.aaload, 1) := by decide +kernel
theorem dX2_open_9 : decode cX2_open 9 = .ok (.aload_n 1, 1) := by decide +kernel
theorem dX2_open_10 : decode cX2_open 10 = .ok (.invokevirtual 25, 3) := by decide +kernel
theorem dX2_open_13 : decode cX2_open 13 = .ok (.return_, 1) := by decide +kernel
theorem dX2_opened_0 : decode cX2_opened 0 = .ok (.aload_n 0, 1) := by decide +kernel
theorem dX2_opened_1 : decode cX2_opened 1 = .ok (.getfield 13, 3) := by decide +kernel
theorem dX2_opened_4 : decode cX2_opened 4 = .ok (.aload_n 0, 1) := by decide +kernel
theorem dX2_opened_5 : decode cX2_opened 5 = .ok (.getfield 22, 3) := by decide +kernel
theorem dX2_opened_8 : decode cX2_opened 8 = .ok (.aaload, 1) := by decide +kernel
theorem dX2_opened_9 : decode cX2_opened 9 = .ok (.areturn, 1) := by decide +kernel
theorem dX2_record_0 : decode cX2_record 0 = .ok (.aload_n 0, 1) := by decide +kernel
theorem dX2_record_1 : decode cX2_record 1 = .ok (.aload_n 0, 1) := by decide +kernel
theorem dX2_record_2 : decode cX2_record 2 = .ok (.getfield 22, 3) := by decide +kernel
theorem dX2_record_5 : decode cX2_record 5 = .ok (.iconst 1, 1) := by decide +kernel
theorem dX2_record_6 : decode cX2_record 6 = .ok (.iadd, 1) := by decide +kernel
theorem dX2_record_7 : decode cX2_record 7 = .ok (.iconst 5, 1) := by decide +kernel
theorem dX2_record_8 : decode cX2_record 8 = .ok (.irem, 1) := by decide +kernel
theorem dX2_record_9 : decode cX2_record 9 = .ok (.putfield 22, 3) := by decide +kernel
theorem dX2_record_12 : decode cX2_record 12 = .ok (.aload_n 0, 1) := by decide +kernel
theorem dX2_record_13 : decode cX2_record 13 = .ok (.aload_n 0, 1) := by decide +kernel
theorem dX2_record_14 : decode cX2_record 14 = .ok (.getfield 18, 3) := by decide +kernel
theorem dX2_record_17 : decode cX2_record 17 = .ok (.iconst 1, 1) := by decide +kernel
theorem dX2_record_18 : decode cX2_record 18 = .ok (.iadd, 1) := by decide +kernel
theorem dX2_record_19 : decode cX2_record 19 = .ok (.iconst 4, 1) := by decide +kernel
theorem dX2_record_20 : decode cX2_record 20 = .ok (.invokestatic 29, 3) := by decide +kernel
theorem dX2_record_23 : decode cX2_record 23 = .ok (.putfield 18, 3) := by decide +kernel
theorem dX2_record_26 : decode cX2_record 26 = .ok (.return_, 1) := by decide +kernel
theorem dX2_takeLatest_0 : decode cX2_takeLatest 0 = .ok (.aload_n 0, 1) := by decide +kernel
theorem dX2_takeLatest_1 : decode cX2_takeLatest 1 = .ok (.getfield 18, 3) := by decide +kernel
theorem dX2_takeLatest_4 : decode cX2_takeLatest 4 = .ok (.ifCond .ne 5, 3) := by decide +kernel
theorem dX2_takeLatest_7 : decode cX2_takeLatest 7 = .ok (.aconst_null, 1) := by decide +kernel
theorem dX2_takeLatest_8 : decode cX2_takeLatest 8 = .ok (.areturn, 1) := by decide +kernel
theorem dX2_takeLatest_9 : decode cX2_takeLatest 9 = .ok (.aload_n 0, 1) := by decide +kernel
theorem dX2_takeLatest_10 : decode cX2_takeLatest 10 = .ok (.dup, 1) := by decide +kernel
theorem dX2_takeLatest_11 : decode cX2_takeLatest 11 = .ok (.getfield 18, 3) := by decide +kernel
theorem dX2_takeLatest_14 : decode cX2_takeLatest 14 = .ok (.iconst 1, 1) := by decide +kernel
theorem dX2_takeLatest_15 : decode cX2_takeLatest 15 = .ok (.isub, 1) := by decide +kernel
theorem dX2_takeLatest_16 : decode cX2_takeLatest 16 = .ok (.putfield 18, 3) := by decide +kernel
theorem dX2_takeLatest_19 : decode cX2_takeLatest 19 = .ok (.aload_n 0, 1) := by decide +kernel
theorem dX2_takeLatest_20 : decode cX2_takeLatest 20 = .ok (.aload_n 0, 1) := by decide +kernel
theorem dX2_takeLatest_21 : decode cX2_takeLatest 21 = .ok (.getfield 22, 3) := by decide +kernel
theorem dX2_takeLatest_24 : decode cX2_takeLatest 24 = .ok (.iconst 5, 1) := by decide +kernel
theorem dX2_takeLatest_25 : decode cX2_takeLatest 25 = .ok (.iadd, 1) := by decide +kernel
theorem dX2_takeLatest_26 : decode cX2_takeLatest 26 = .ok (.iconst 1, 1) := by decide +kernel
theorem dX2_takeLatest_27 : decode cX2_takeLatest 27 = .ok (.isub, 1) := by decide +kernel
theorem dX2_takeLatest_28 : decode cX2_takeLatest 28 = .ok (.iconst 5, 1) := by decide +kernel
theorem dX2_takeLatest_29 : decode cX2_takeLatest 29 = .ok (.irem, 1) := by decide +kernel
theorem dX2_takeLatest_30 : decode cX2_takeLatest 30 = .ok (.putfield 22, 3) := by decide +kernel
theorem dX2_takeLatest_33 : decode cX2_takeLatest 33 = .ok (.aload_n 0, 1) := by decide +kernel
theorem dX2_takeLatest_34 : decode cX2_takeLatest 34 = .ok (.getfield 13, 3) := by decide +kernel
theorem dX2_takeLatest_37 : decode cX2_takeLatest 37 = .ok (.aload_n 0, 1) := by decide +kernel
theorem dX2_takeLatest_38 : decode cX2_takeLatest 38 = .ok (.getfield 22, 3) := by decide +kernel
theorem dX2_takeLatest_41 : decode cX2_takeLatest 41 = .ok (.aaload, 1) := by decide +kernel
theorem dX2_takeLatest_42 : decode cX2_takeLatest 42 = .ok (.areturn, 1) := by decide +kernel
theorem dX3_init_0 : decode cX3_init 0 = .ok (.aload_n 0, 1) := by decide +kernel
theorem dX3_init_1 : decode cX3_init 1 = .ok (.invokespecial 3, 3) := by decide +kernel
theorem dX3_init_4 : decode cX3_init 4 = .ok (.aload_n 0, 1) := by decide +kernel
theorem dX3_init_5 : decode cX3_init 5 = .ok (.bipush 40, 2) := by decide +kernel
theorem dX3_init_7 : decode cX3_init 7 = .ok (.newarray .int, 2) := by decide +kernel
theorem dX3_init_9 : decode cX3_init 9 = .ok (.putfield 9, 3) := by decide +kernel
theorem dX3_init_12 : decode cX3_init 12 = .ok (.aload_n 0, 1) := by decide +kernel
theorem dX3_init_13 : decode cX3_init 13 = .ok (.bipush 40, 2) := by decide +kernel
theorem dX3_init_15 : decode cX3_init 15 = .ok (.newarray .int, 2) := by decide +kernel
theorem dX3_init_17 : decode cX3_init 17 = .ok (.putfield 15, 3) := by decide +kernel
theorem dX3_init_20 : decode cX3_init 20 = .ok (.aload_n 0, 1) := by decide +kernel
theorem dX3_init_21 : decode cX3_init 21 = .ok (.bipush 40, 2) := by decide +kernel
theorem dX3_init_23 : decode cX3_init 23 = .ok (.newarray .int, 2) := by decide +kernel
theorem dX3_init_25 : decode cX3_init 25 = .ok (.putfield 18, 3) := by decide +kernel
theorem dX3_init_28 : decode cX3_init 28 = .ok (.aload_n 0, 1) := by decide +kernel
theorem dX3_init_29 : decode cX3_init 29 = .ok (.bipush 40, 2) := by decide +kernel
theorem dX3_init_31 : decode cX3_init 31 = .ok (.newarray .int, 2) := by decide +kernel
theorem dX3_init_33 : decode cX3_init 33 = .ok (.putfield 21, 3) := by decide +kernel
theorem dX3_init_36 : decode cX3_init 36 = .ok (.aload_n 0, 1) := by decide +kernel
theorem dX3_init_37 : decode cX3_init 37 = .ok (.bipush 40, 2) := by decide +kernel
theorem dX3_init_39 : decode cX3_init 39 = .ok (.newarray .int, 2) := by decide +kernel
theorem dX3_init_41 : decode cX3_init 41 = .ok (.putfield 24, 3) := by decide +kernel
theorem dX3_init_44 : decode cX3_init 44 = .ok (.return_, 1) := by decide +kernel
theorem dX3_copyFrom_0 : decode cX3_copyFrom 0 = .ok (.aload_n 0, 1) := by decide +kernel
theorem dX3_copyFrom_1 : decode cX3_copyFrom 1 = .ok (.aload_n 1, 1) := by decide +kernel
theorem dX3_copyFrom_2 : decode cX3_copyFrom 2 = .ok (.getfield 27, 3) := by decide +kernel
theorem dX3_copyFrom_5 : decode cX3_copyFrom 5 = .ok (.putfield 27, 3) := by decide +kernel
theorem dX3_copyFrom_8 : decode cX3_copyFrom 8 = .ok (.aload_n 0, 1) := by decide +kernel
theorem dX3_copyFrom_9 : decode cX3_copyFrom 9 = .ok (.aload_n 1, 1) := by decide +kernel
theorem dX3_copyFrom_10 : decode cX3_copyFrom 10 = .ok (.getfield 31, 3) := by decide +kernel
theorem dX3_copyFrom_13 : decode cX3_copyFrom 13 = .ok (.putfield 31, 3) := by decide +kernel
theorem dX3_copyFrom_16 : decode cX3_copyFrom 16 = .ok (.aload_n 0, 1) := by decide +kernel
theorem dX3_copyFrom_17 : decode cX3_copyFrom 17 = .ok (.aload_n 1, 1) := by decide +kernel
theorem dX3_copyFrom_18 : decode cX3_copyFrom 18 = .ok (.getfield 34, 3) := by decide +kernel
theorem dX3_copyFrom_21 : decode cX3_copyFrom 21 = .ok (.putfield 34, 3) := by decide +kernel
theorem dX3_copyFrom_24 : decode cX3_copyFrom 24 = .ok (.aload_n 1, 1) := by decide +kernel
theorem dX3_copyFrom_25 : decode cX3_copyFrom 25 = .ok (.getfield 9, 3) := by decide +kernel
theorem dX3_copyFrom_28 : decode cX3_copyFrom 28 = .ok (.iconst 0, 1) := by decide +kernel
theorem dX3_copyFrom_29 : decode cX3_copyFrom 29 = .ok (.aload_n 0, 1) := by decide +kernel
theorem dX3_copyFrom_30 : decode cX3_copyFrom 30 = .ok (.getfield 9, 3) := by decide +kernel
theorem dX3_copyFrom_33 : decode cX3_copyFrom 33 = .ok (.iconst 0, 1) := by decide +kernel
theorem dX3_copyFrom_34 : decode cX3_copyFrom 34 = .ok (.aload_n 0, 1) := by decide +kernel
theorem dX3_copyFrom_35 : decode cX3_copyFrom 35 = .ok (.getfield 27, 3) := by decide +kernel
theorem dX3_copyFrom_38 : decode cX3_copyFrom 38 = .ok (.invokestatic 37, 3) := by decide +kernel
theorem dX3_copyFrom_41 : decode cX3_copyFrom 41 = .ok (.aload_n 1, 1) := by decide +kernel
theorem dX3_copyFrom_42 : decode cX3_copyFrom 42 = .ok (.getfield 15, 3) := by decide +kernel
theorem dX3_copyFrom_45 : decode cX3_copyFrom 45 = .ok (.iconst 0, 1) := by decide +kernel
theorem dX3_copyFrom_46 : decode cX3_copyFrom 46 = .ok (.aload_n 0, 1) := by decide +kernel
theorem dX3_copyFrom_47 : decode cX3_copyFrom 47 = .ok (.getfield 15, 3) := by decide +kernel
theorem dX3_copyFrom_50 : decode cX3_copyFrom 50 = .ok (.iconst 0, 1) := by decide +kernel
theorem dX3_copyFrom_51 : decode cX3_copyFrom 51 = .ok (.aload_n 0, 1) := by decide +kernel
theorem dX3_copyFrom_52 : decode cX3_copyFrom 52 = .ok (.getfield 27, 3) := by decide +kernel
theorem dX3_copyFrom_55 : decode cX3_copyFrom 55 = .ok (.invokestatic 37, 3) := by decide +kernel
theorem dX3_copyFrom_58 : decode cX3_copyFrom 58 = .ok (.aload_n 1, 1) := by decide +kernel
theorem dX3_copyFrom_59 : decode cX3_copyFrom 59 = .ok (.getfield 18, 3) := by decide +kernel
theorem dX3_copyFrom_62 : decode cX3_copyFrom 62 = .ok (.iconst 0, 1) := by decide +kernel
theorem dX3_copyFrom_63 : decode cX3_copyFrom 63 = .ok (.aload_n 0, 1) := by decide +kernel
theorem dX3_copyFrom_64 : decode cX3_copyFrom 64 = .ok (.getfield 18, 3) := by decide +kernel
theorem dX3_copyFrom_67 : decode cX3_copyFrom 67 = .ok (.iconst 0, 1) := by decide +kernel
theorem dX3_copyFrom_68 : decode cX3_copyFrom 68 = .ok (.aload_n 0, 1) := by decide +kernel
theorem dX3_copyFrom_69 : decode cX3_copyFrom 69 = .ok (.getfield 27, 3) := by decide +kernel
theorem dX3_copyFrom_72 : decode cX3_copyFrom 72 = .ok (.invokestatic 37, 3) := by decide +kernel
theorem dX3_copyFrom_75 : decode cX3_copyFrom 75 = .ok (.aload_n 1, 1) := by decide +kernel
theorem dX3_copyFrom_76 : decode cX3_copyFrom 76 = .ok (.getfield 21, 3) := by decide +kernel
theorem dX3_copyFrom_79 : decode cX3_copyFrom 79 = .ok (.iconst 0, 1) := by decide +kernel
theorem dX3_copyFrom_80 : decode cX3_copyFrom 80 = .ok (.aload_n 0, 1) := by decide +kernel
theorem dX3_copyFrom_81 : decode cX3_copyFrom 81 = .ok (.getfield 21, 3) := by decide +kernel
theorem dX3_copyFrom_84 : decode cX3_copyFrom 84 = .ok (.iconst 0, 1) := by decide +kernel
theorem dX3_copyFrom_85 : decode cX3_copyFrom 85 = .ok (.aload_n 0, 1) := by decide +kernel
theorem dX3_copyFrom_86 : decode cX3_copyFrom 86 = .ok (.getfield 27, 3) := by decide +kernel
theorem dX3_copyFrom_89 : decode cX3_copyFrom 89 = .ok (.invokestatic 37, 3) := by decide +kernel
theorem dX3_copyFrom_92 : decode cX3_copyFrom 92 = .ok (.aload_n 1, 1) := by decide +kernel
theorem dX3_copyFrom_93 : decode cX3_copyFrom 93 = .ok (.getfield 24, 3) := by decide +kernel
theorem dX3_copyFrom_96 : decode cX3_copyFrom 96 = .ok (.iconst 0, 1) := by decide +kernel
theorem dX3_copyFrom_97 : decode cX3_copyFrom 97 = .ok (.aload_n 0, 1) := by decide +kernel
theorem dX3_copyFrom_98 : decode cX3_copyFrom 98 = .ok (.getfield 24, 3) := by decide +kernel
theorem dX3_copyFrom_101 : decode cX3_copyFrom 101 = .ok (.iconst 0, 1) := by decide +kernel
theorem dX3_copyFrom_102 : decode cX3_copyFrom 102 = .ok (.aload_n 0, 1) := by decide +kernel
theorem dX3_copyFrom_103 : decode cX3_copyFrom 103 = .ok (.getfield 27, 3) := by decide +kernel
theorem dX3_copyFrom_106 : decode cX3_copyFrom 106 = .ok (.invokestatic 37, 3) := by decide +kernel
theorem dX3_copyFrom_109 : decode cX3_copyFrom 109 = .ok (.return_, 1) := by decide +kernel
theorem dX3_hasRoom_0 : decode cX3_hasRoom 0 = .ok (.aload_n 0, 1) := by decide +kernel
theorem dX3_hasRoom_1 : decode cX3_hasRoom 1 = .ok (.getfield 27, 3) := by decide +kernel
theorem dX3_hasRoom_4 : decode cX3_hasRoom 4 = .ok (.bipush 40, 2) := by decide +kernel
theorem dX3_hasRoom_6 : decode cX3_hasRoom 6 = .ok (.if_icmp .ge 17, 3) := by decide +kernel
theorem dX3_hasRoom_9 : decode cX3_hasRoom 9 = .ok (.aload_n 0, 1) := by decide +kernel
theorem dX3_hasRoom_10 : decode cX3_hasRoom 10 = .ok (.getfield 31, 3) := by decide +kernel
theorem dX3_hasRoom_13 : decode cX3_hasRoom 13 = .ok (.sipush 1000, 3) := by decide +kernel
theorem dX3_hasRoom_16 : decode cX3_hasRoom 16 = .ok (.if_icmp .ge 7, 3) := by decide +kernel
theorem dX3_hasRoom_19 : decode cX3_hasRoom 19 = .ok (.iconst 1, 1) := by decide +kernel
theorem dX3_hasRoom_20 : decode cX3_hasRoom 20 = .ok (.goto 4, 3) := by decide +kernel
theorem dX3_hasRoom_23 : decode cX3_hasRoom 23 = .ok (.iconst 0, 1) := by decide +kernel
theorem dX3_hasRoom_24 : decode cX3_hasRoom 24 = .ok (.ireturn, 1) := by decide +kernel
theorem dX3_append_0 : decode cX3_append 0 = .ok (.aload_n 0, 1) := by decide +kernel
theorem dX3_append_1 : decode cX3_append 1 = .ok (.getfield 9, 3) := by decide +kernel
theorem dX3_append_4 : decode cX3_append 4 = .ok (.aload_n 0, 1) := by decide +kernel
theorem dX3_append_5 : decode cX3_append 5 = .ok (.getfield 27, 3) := by decide +kernel
theorem dX3_append_8 : decode cX3_append 8 = .ok (.aload_n 0, 1) := by decide +kernel
theorem dX3_append_9 : decode cX3_append 9 = .ok (.getfield 31, 3) := by decide +kernel
theorem dX3_append_12 : decode cX3_append 12 = .ok (.iastore, 1) := by decide +kernel
theorem dX3_append_13 : decode cX3_append 13 = .ok (.aload_n 0, 1) := by decide +kernel
theorem dX3_append_14 : decode cX3_append 14 = .ok (.getfield 15, 3) := by decide +kernel
theorem dX3_append_17 : decode cX3_append 17 = .ok (.aload_n 0, 1) := by decide +kernel
theorem dX3_append_18 : decode cX3_append 18 = .ok (.getfield 27, 3) := by decide +kernel
theorem dX3_append_21 : decode cX3_append 21 = .ok (.iload_n 1, 1) := by decide +kernel
theorem dX3_append_22 : decode cX3_append 22 = .ok (.iastore, 1) := by decide +kernel
theorem dX3_append_23 : decode cX3_append 23 = .ok (.aload_n 0, 1) := by decide +kernel
theorem dX3_append_24 : decode cX3_append 24 = .ok (.getfield 18, 3) := by decide +kernel
theorem dX3_append_27 : decode cX3_append 27 = .ok (.aload_n 0, 1) := by decide +kernel
theorem dX3_append_28 : decode cX3_append 28 = .ok (.getfield 27, 3) := by decide +kernel
theorem dX3_append_31 : decode cX3_append 31 = .ok (.iload_n 2, 1) := by decide +kernel
theorem dX3_append_32 : decode cX3_append 32 = .ok (.iastore, 1) := by decide +kernel
theorem dX3_append_33 : decode cX3_append 33 = .ok (.aload_n 0, 1) := by decide +kernel
theorem dX3_append_34 : decode cX3_append 34 = .ok (.getfield 21, 3) := by decide +kernel
theorem dX3_append_37 : decode cX3_append 37 = .ok (.aload_n 0, 1) := by decide +kernel
theorem dX3_append_38 : decode cX3_append 38 = .ok (.getfield 27, 3) := by decide +kernel
theorem dX3_append_41 : decode cX3_append 41 = .ok (.iload_n 3, 1) := by decide +kernel
theorem dX3_append_42 : decode cX3_append 42 = .ok (.iastore, 1) := by decide +kernel
theorem dX3_append_43 : decode cX3_append 43 = .ok (.aload_n 0, 1) := by decide +kernel
theorem dX3_append_44 : decode cX3_append 44 = .ok (.getfield 24, 3) := by decide +kernel
theorem dX3_append_47 : decode cX3_append 47 = .ok (.aload_n 0, 1) := by decide +kernel
theorem dX3_append_48 : decode cX3_append 48 = .ok (.getfield 27, 3) := by decide +kernel
theorem dX3_append_51 : decode cX3_append 51 = .ok (.iload 4, 2) := by decide +kernel
theorem dX3_append_53 : decode cX3_append 53 = .ok (.iastore, 1) := by decide +kernel
theorem dX3_append_54 : decode cX3_append 54 = .ok (.aload_n 0, 1) := by decide +kernel
theorem dX3_append_55 : decode cX3_append 55 = .ok (.dup, 1) := by decide +kernel
theorem dX3_append_56 : decode cX3_append 56 = .ok (.getfield 27, 3) := by decide +kernel
theorem dX3_append_59 : decode cX3_append 59 = .ok (.iconst 1, 1) := by decide +kernel
theorem dX3_append_60 : decode cX3_append 60 = .ok (.iadd, 1) := by decide +kernel
theorem dX3_append_61 : decode cX3_append 61 = .ok (.putfield 27, 3) := by decide +kernel
theorem dX3_append_64 : decode cX3_append 64 = .ok (.aload_n 0, 1) := by decide +kernel
theorem dX3_append_65 : decode cX3_append 65 = .ok (.dup, 1) := by decide +kernel
theorem dX3_append_66 : decode cX3_append 66 = .ok (.getfield 31, 3) := by decide +kernel
theorem dX3_append_69 : decode cX3_append 69 = .ok (.iconst 1, 1) := by decide +kernel
theorem dX3_append_70 : decode cX3_append 70 = .ok (.iadd, 1) := by decide +kernel
theorem dX3_append_71 : decode cX3_append 71 = .ok (.putfield 31, 3) := by decide +kernel
theorem dX3_append_74 : decode cX3_append 74 = .ok (.aload_n 0, 1) := by decide +kernel
theorem dX3_append_75 : decode cX3_append 75 = .ok (.getfield 31, 3) := by decide +kernel
theorem dX3_append_78 : decode cX3_append 78 = .ok (.iconst 1, 1) := by decide +kernel
theorem dX3_append_79 : decode cX3_append 79 = .ok (.isub, 1) := by decide +kernel
theorem dX3_append_80 : decode cX3_append 80 = .ok (.ireturn, 1) := by decide +kernel
theorem dX3_remove_0 : decode cX3_remove 0 = .ok (.aload_n 0, 1) := by decide +kernel
theorem dX3_remove_1 : decode cX3_remove 1 = .ok (.getfield 27, 3) := by decide +kernel
theorem dX3_remove_4 : decode cX3_remove 4 = .ok (.iload_n 1, 1) := by decide +kernel
theorem dX3_remove_5 : decode cX3_remove 5 = .ok (.isub, 1) := by decide +kernel
theorem dX3_remove_6 : decode cX3_remove 6 = .ok (.iconst 1, 1) := by decide +kernel
theorem dX3_remove_7 : decode cX3_remove 7 = .ok (.isub, 1) := by decide +kernel
theorem dX3_remove_8 : decode cX3_remove 8 = .ok (.istore_n 2, 1) := by decide +kernel
theorem dX3_remove_9 : decode cX3_remove 9 = .ok (.aload_n 0, 1) := by decide +kernel
theorem dX3_remove_10 : decode cX3_remove 10 = .ok (.getfield 9, 3) := by decide +kernel
theorem dX3_remove_13 : decode cX3_remove 13 = .ok (.iload_n 1, 1) := by decide +kernel
theorem dX3_remove_14 : decode cX3_remove 14 = .ok (.iconst 1, 1) := by decide +kernel
theorem dX3_remove_15 : decode cX3_remove 15 = .ok (.iadd, 1) := by decide +kernel
theorem dX3_remove_16 : decode cX3_remove 16 = .ok (.aload_n 0, 1) := by decide +kernel
theorem dX3_remove_17 : decode cX3_remove 17 = .ok (.getfield 9, 3) := by decide +kernel
theorem dX3_remove_20 : decode cX3_remove 20 = .ok (.iload_n 1, 1) := by decide +kernel
theorem dX3_remove_21 : decode cX3_remove 21 = .ok (.iload_n 2, 1) := by decide +kernel
theorem dX3_remove_22 : decode cX3_remove 22 = .ok (.invokestatic 37, 3) := by decide +kernel
theorem dX3_remove_25 : decode cX3_remove 25 = .ok (.aload_n 0, 1) := by decide +kernel
theorem dX3_remove_26 : decode cX3_remove 26 = .ok (.getfield 15, 3) := by decide +kernel
theorem dX3_remove_29 : decode cX3_remove 29 = .ok (.iload_n 1, 1) := by decide +kernel
theorem dX3_remove_30 : decode cX3_remove 30 = .ok (.iconst 1, 1) := by decide +kernel
theorem dX3_remove_31 : decode cX3_remove 31 = .ok (.iadd, 1) := by decide +kernel
theorem dX3_remove_32 : decode cX3_remove 32 = .ok (.aload_n 0, 1) := by decide +kernel
theorem dX3_remove_33 : decode cX3_remove 33 = .ok (.getfield 15, 3) := by decide +kernel
theorem dX3_remove_36 : decode cX3_remove 36 = .ok (.iload_n 1, 1) := by decide +kernel
theorem dX3_remove_37 : decode cX3_remove 37 = .ok (.iload_n 2, 1) := by decide +kernel
theorem dX3_remove_38 : decode cX3_remove 38 = .ok (.invokestatic 37, 3) := by decide +kernel
theorem dX3_remove_41 : decode cX3_remove 41 = .ok (.aload_n 0, 1) := by decide +kernel
theorem dX3_remove_42 : decode cX3_remove 42 = .ok (.getfield 18, 3) := by decide +kernel
theorem dX3_remove_45 : decode cX3_remove 45 = .ok (.iload_n 1, 1) := by decide +kernel
theorem dX3_remove_46 : decode cX3_remove 46 = .ok (.iconst 1, 1) := by decide +kernel
theorem dX3_remove_47 : decode cX3_remove 47 = .ok (.iadd, 1) := by decide +kernel
theorem dX3_remove_48 : decode cX3_remove 48 = .ok (.aload_n 0, 1) := by decide +kernel
theorem dX3_remove_49 : decode cX3_remove 49 = .ok (.getfield 18, 3) := by decide +kernel
theorem dX3_remove_52 : decode cX3_remove 52 = .ok (.iload_n 1, 1) := by decide +kernel
theorem dX3_remove_53 : decode cX3_remove 53 = .ok (.iload_n 2, 1) := by decide +kernel
theorem dX3_remove_54 : decode cX3_remove 54 = .ok (.invokestatic 37, 3) := by decide +kernel
theorem dX3_remove_57 : decode cX3_remove 57 = .ok (.aload_n 0, 1) := by decide +kernel
theorem dX3_remove_58 : decode cX3_remove 58 = .ok (.getfield 21, 3) := by decide +kernel
theorem dX3_remove_61 : decode cX3_remove 61 = .ok (.iload_n 1, 1) := by decide +kernel
theorem dX3_remove_62 : decode cX3_remove 62 = .ok (.iconst 1, 1) := by decide +kernel
theorem dX3_remove_63 : decode cX3_remove 63 = .ok (.iadd, 1) := by decide +kernel
theorem dX3_remove_64 : decode cX3_remove 64 = .ok (.aload_n 0, 1) := by decide +kernel
theorem dX3_remove_65 : decode cX3_remove 65 = .ok (.getfield 21, 3) := by decide +kernel
theorem dX3_remove_68 : decode cX3_remove 68 = .ok (.iload_n 1, 1) := by decide +kernel
theorem dX3_remove_69 : decode cX3_remove 69 = .ok (.iload_n 2, 1) := by decide +kernel
theorem dX3_remove_70 : decode cX3_remove 70 = .ok (.invokestatic 37, 3) := by decide +kernel
theorem dX3_remove_73 : decode cX3_remove 73 = .ok (.aload_n 0, 1) := by decide +kernel
theorem dX3_remove_74 : decode cX3_remove 74 = .ok (.getfield 24, 3) := by decide +kernel
theorem dX3_remove_77 : decode cX3_remove 77 = .ok (.iload_n 1, 1) := by decide +kernel
theorem dX3_remove_78 : decode cX3_remove 78 = .ok (.iconst 1, 1) := by decide +kernel
theorem dX3_remove_79 : decode cX3_remove 79 = .ok (.iadd, 1) := by decide +kernel
theorem dX3_remove_80 : decode cX3_remove 80 = .ok (.aload_n 0, 1) := by decide +kernel
theorem dX3_remove_81 : decode cX3_remove 81 = .ok (.getfield 24, 3) := by decide +kernel
theorem dX3_remove_84 : decode cX3_remove 84 = .ok (.iload_n 1, 1) := by decide +kernel
theorem dX3_remove_85 : decode cX3_remove 85 = .ok (.iload_n 2, 1) := by decide +kernel
theorem dX3_remove_86 : decode cX3_remove 86 = .ok (.invokestatic 37, 3) := by decide +kernel
theorem dX3_remove_89 : decode cX3_remove 89 = .ok (.aload_n 0, 1) := by decide +kernel
theorem dX3_remove_90 : decode cX3_remove 90 = .ok (.dup, 1) := by decide +kernel
theorem dX3_remove_91 : decode cX3_remove 91 = .ok (.getfield 27, 3) := by decide +kernel
theorem dX3_remove_94 : decode cX3_remove 94 = .ok (.iconst 1, 1) := by decide +kernel
theorem dX3_remove_95 : decode cX3_remove 95 = .ok (.isub, 1) := by decide +kernel
theorem dX3_remove_96 : decode cX3_remove 96 = .ok (.putfield 27, 3) := by decide +kernel
theorem dX3_remove_99 : decode cX3_remove 99 = .ok (.aload_n 0, 1) := by decide +kernel
theorem dX3_remove_100 : decode cX3_remove 100 = .ok (.dup, 1) := by decide +kernel
theorem dX3_remove_101 : decode cX3_remove 101 = .ok (.getfield 34, 3) := by decide +kernel
theorem dX3_remove_104 : decode cX3_remove 104 = .ok (.iconst 1, 1) := by decide +kernel
theorem dX3_remove_105 : decode cX3_remove 105 = .ok (.iadd, 1) := by decide +kernel
theorem dX3_remove_106 : decode cX3_remove 106 = .ok (.putfield 34, 3) := by decide +kernel
theorem dX3_remove_109 : decode cX3_remove 109 = .ok (.return_, 1) := by decide +kernel
theorem dX3_rowOf_0 : decode cX3_rowOf 0 = .ok (.iconst 0, 1) := by decide +kernel
theorem dX3_rowOf_1 : decode cX3_rowOf 1 = .ok (.istore_n 2, 1) := by decide +kernel
theorem dX3_rowOf_2 : decode cX3_rowOf 2 = .ok (.iload_n 2, 1) := by decide +kernel
theorem dX3_rowOf_3 : decode cX3_rowOf 3 = .ok (.aload_n 0, 1) := by decide +kernel
theorem dX3_rowOf_4 : decode cX3_rowOf 4 = .ok (.getfield 27, 3) := by decide +kernel
theorem dX3_rowOf_7 : decode cX3_rowOf 7 = .ok (.if_icmp .ge 21, 3) := by decide +kernel
theorem dX3_rowOf_10 : decode cX3_rowOf 10 = .ok (.aload_n 0, 1) := by decide +kernel
theorem dX3_rowOf_11 : decode cX3_rowOf 11 = .ok (.getfield 9, 3) := by decide +kernel
theorem dX3_rowOf_14 : decode cX3_rowOf 14 = .ok (.iload_n 2, 1) := by decide +kernel
theorem dX3_rowOf_15 : decode cX3_rowOf 15 = .ok (.iaload, 1) := by decide +kernel
theorem dX3_rowOf_16 : decode cX3_rowOf 16 = .ok (.iload_n 1, 1) := by decide +kernel
theorem dX3_rowOf_17 : decode cX3_rowOf 17 = .ok (.if_icmp .ne 5, 3) := by decide +kernel
theorem dX3_rowOf_20 : decode cX3_rowOf 20 = .ok (.iload_n 2, 1) := by decide +kernel
theorem dX3_rowOf_21 : decode cX3_rowOf 21 = .ok (.ireturn, 1) := by decide +kernel
theorem dX3_rowOf_22 : decode cX3_rowOf 22 = .ok (.iinc 2 1, 3) := by decide +kernel
theorem dX3_rowOf_25 : decode cX3_rowOf 25 = .ok (.goto (-23), 3) := by decide +kernel
theorem dX3_rowOf_28 : decode cX3_rowOf 28 = .ok (.iconst (-1), 1) := by decide +kernel
theorem dX3_rowOf_29 : decode cX3_rowOf 29 = .ok (.ireturn, 1) := by decide +kernel
theorem dX3_latestAhead_0 : decode cX3_latestAhead 0 = .ok (.aload_n 0, 1) := by decide +kernel
theorem dX3_latestAhead_1 : decode cX3_latestAhead 1 = .ok (.getfield 27, 3) := by decide +kernel
theorem dX3_latestAhead_4 : decode cX3_latestAhead 4 = .ok (.iconst 1, 1) := by decide +kernel
theorem dX3_latestAhead_5 : decode cX3_latestAhead 5 = .ok (.isub, 1) := by decide +kernel
theorem dX3_latestAhead_6 : decode cX3_latestAhead 6 = .ok (.istore 4, 2) := by decide +kernel
theorem dX3_latestAhead_8 : decode cX3_latestAhead 8 = .ok (.iload 4, 2) := by decide +kernel
theorem dX3_latestAhead_10 : decode cX3_latestAhead 10 = .ok (.ifCond .lt 50, 3) := by decide +kernel
theorem dX3_latestAhead_13 : decode cX3_latestAhead 13 = .ok (.aload_n 0, 1) := by decide +kernel
theorem dX3_latestAhead_14 : decode cX3_latestAhead 14 = .ok (.getfield 9, 3) := by decide +kernel
theorem dX3_latestAhead_17 : decode cX3_latestAhead 17 = .ok (.iload 4, 2) := by decide +kernel
theorem dX3_latestAhead_19 : decode cX3_latestAhead 19 = .ok (.iaload, 1) := by decide +kernel
theorem dX3_latestAhead_20 : decode cX3_latestAhead 20 = .ok (.iload_n 1, 1) := by decide +kernel
theorem dX3_latestAhead_21 : decode cX3_latestAhead 21 = .ok (.if_icmp .ge 33, 3) := by decide +kernel
theorem dX3_latestAhead_24 : decode cX3_latestAhead 24 = .ok (.aload_n 0, 1) := by decide +kernel
theorem dX3_latestAhead_25 : decode cX3_latestAhead 25 = .ok (.getfield 15, 3) := by decide +kernel
theorem dX3_latestAhead_28 : decode cX3_latestAhead 28 = .ok (.iload 4, 2) := by decide +kernel
theorem dX3_latestAhead_30 : decode cX3_latestAhead 30 = .ok (.iaload, 1) := by decide +kernel
theorem dX3_latestAhead_31 : decode cX3_latestAhead 31 = .ok (.iload_n 2, 1) := by decide +kernel
theorem dX3_latestAhead_32 : decode cX3_latestAhead 32 = .ok (.if_icmp .ne 22, 3) := by decide +kernel
theorem dX3_latestAhead_35 : decode cX3_latestAhead 35 = .ok (.aload_n 0, 1) := by decide +kernel
theorem dX3_latestAhead_36 : decode cX3_latestAhead 36 = .ok (.getfield 21, 3) := by decide +kernel
theorem dX3_latestAhead_39 : decode cX3_latestAhead 39 = .ok (.iload 4, 2) := by decide +kernel
theorem dX3_latestAhead_41 : decode cX3_latestAhead 41 = .ok (.iaload, 1) := by decide +kernel
theorem dX3_latestAhead_42 : decode cX3_latestAhead 42 = .ok (.iload_n 3, 1) := by decide +kernel
theorem dX3_latestAhead_43 : decode cX3_latestAhead 43 = .ok (.if_icmp .ne 11, 3) := by decide +kernel
theorem dX3_latestAhead_46 : decode cX3_latestAhead 46 = .ok (.aload_n 0, 1) := by decide +kernel
theorem dX3_latestAhead_47 : decode cX3_latestAhead 47 = .ok (.getfield 9, 3) := by decide +kernel
theorem dX3_latestAhead_50 : decode cX3_latestAhead 50 = .ok (.iload 4, 2) := by decide +kernel
theorem dX3_latestAhead_52 : decode cX3_latestAhead 52 = .ok (.iaload, 1) := by decide +kernel
theorem dX3_latestAhead_53 : decode cX3_latestAhead 53 = .ok (.ireturn, 1) := by decide +kernel
theorem dX3_latestAhead_54 : decode cX3_latestAhead 54 = .ok (.iinc 4 (-1), 3) := by decide +kernel
theorem dX3_latestAhead_57 : decode cX3_latestAhead 57 = .ok (.goto (-49), 3) := by decide +kernel
theorem dX3_latestAhead_60 : decode cX3_latestAhead 60 = .ok (.iconst (-1), 1) := by decide +kernel
theorem dX3_latestAhead_61 : decode cX3_latestAhead 61 = .ok (.ireturn, 1) := by decide +kernel
theorem dX3_countOf_0 : decode cX3_countOf 0 = .ok (.iconst 0, 1) := by decide +kernel
theorem dX3_countOf_1 : decode cX3_countOf 1 = .ok (.istore_n 2, 1) := by decide +kernel
theorem dX3_countOf_2 : decode cX3_countOf 2 = .ok (.iconst 0, 1) := by decide +kernel
theorem dX3_countOf_3 : decode cX3_countOf 3 = .ok (.istore_n 3, 1) := by decide +kernel
theorem dX3_countOf_4 : decode cX3_countOf 4 = .ok (.iload_n 3, 1) := by decide +kernel
theorem dX3_countOf_5 : decode cX3_countOf 5 = .ok (.aload_n 0, 1) := by decide +kernel
theorem dX3_countOf_6 : decode cX3_countOf 6 = .ok (.getfield 27, 3) := by decide +kernel
theorem dX3_countOf_9 : decode cX3_countOf 9 = .ok (.if_icmp .ge 22, 3) := by decide +kernel
theorem dX3_countOf_12 : decode cX3_countOf 12 = .ok (.aload_n 0, 1) := by decide +kernel
theorem dX3_countOf_13 : decode cX3_countOf 13 = .ok (.getfield 21, 3) := by decide +kernel
theorem dX3_countOf_16 : decode cX3_countOf 16 = .ok (.iload_n 3, 1) := by decide +kernel
theorem dX3_countOf_17 : decode cX3_countOf 17 = .ok (.iaload, 1) := by decide +kernel
theorem dX3_countOf_18 : decode cX3_countOf 18 = .ok (.iload_n 1, 1) := by decide +kernel
theorem dX3_countOf_19 : decode cX3_countOf 19 = .ok (.if_icmp .ne 6, 3) := by decide +kernel
theorem dX3_countOf_22 : decode cX3_countOf 22 = .ok (.iinc 2 1, 3) := by decide +kernel
theorem dX3_countOf_25 : decode cX3_countOf 25 = .ok (.iinc 3 1, 3) := by decide +kernel
theorem dX3_countOf_28 : decode cX3_countOf 28 = .ok (.goto (-24), 3) := by decide +kernel
theorem dX3_countOf_31 : decode cX3_countOf 31 = .ok (.iload_n 2, 1) := by decide +kernel
theorem dX3_countOf_32 : decode cX3_countOf 32 = .ok (.ireturn, 1) := by decide +kernel
theorem dX3_partsLent_0 : decode cX3_partsLent 0 = .ok (.aload_n 0, 1) := by decide +kernel
theorem dX3_partsLent_1 : decode cX3_partsLent 1 = .ok (.aload_n 0, 1) := by decide +kernel
theorem dX3_partsLent_2 : decode cX3_partsLent 2 = .ok (.getfield 15, 3) := by decide +kernel
theorem dX3_partsLent_5 : decode cX3_partsLent 5 = .ok (.iload_n 1, 1) := by decide +kernel
theorem dX3_partsLent_6 : decode cX3_partsLent 6 = .ok (.iload_n 2, 1) := by decide +kernel
theorem dX3_partsLent_7 : decode cX3_partsLent 7 = .ok (.invokevirtual 43, 3) := by decide +kernel
theorem dX3_partsLent_10 : decode cX3_partsLent 10 = .ok (.ireturn, 1) := by decide +kernel
theorem dX3_partsBorrowed_0 : decode cX3_partsBorrowed 0 = .ok (.aload_n 0, 1) := by decide +kernel
theorem dX3_partsBorrowed_1 : decode cX3_partsBorrowed 1 = .ok (.aload_n 0, 1) := by decide +kernel
theorem dX3_partsBorrowed_2 : decode cX3_partsBorrowed 2 = .ok (.getfield 18, 3) := by decide +kernel
theorem dX3_partsBorrowed_5 : decode cX3_partsBorrowed 5 = .ok (.iload_n 1, 1) := by decide +kernel
theorem dX3_partsBorrowed_6 : decode cX3_partsBorrowed 6 = .ok (.iload_n 2, 1) := by decide +kernel
theorem dX3_partsBorrowed_7 : decode cX3_partsBorrowed 7 = .ok (.invokevirtual 43, 3) := by decide +kernel
theorem dX3_partsBorrowed_10 : decode cX3_partsBorrowed 10 = .ok (.ireturn, 1) := by decide +kernel
theorem dX3_sumParts_0 : decode cX3_sumParts 0 = .ok (.iconst 0, 1) := by decide +kernel
theorem dX3_sumParts_1 : decode cX3_sumParts 1 = .ok (.istore 4, 2) := by decide +kernel
theorem dX3_sumParts_3 : decode cX3_sumParts 3 = .ok (.iconst 0, 1) := by decide +kernel
theorem dX3_sumParts_4 : decode cX3_sumParts 4 = .ok (.istore 5, 2) := by decide +kernel
theorem dX3_sumParts_6 : decode cX3_sumParts 6 = .ok (.iload 5, 2) := by decide +kernel
theorem dX3_sumParts_8 : decode cX3_sumParts 8 = .ok (.aload_n 0, 1) := by decide +kernel
theorem dX3_sumParts_9 : decode cX3_sumParts 9 = .ok (.getfield 27, 3) := by decide +kernel
theorem dX3_sumParts_12 : decode cX3_sumParts 12 = .ok (.if_icmp .ge 40, 3) := by decide +kernel
theorem dX3_sumParts_15 : decode cX3_sumParts 15 = .ok (.aload_n 1, 1) := by decide +kernel
theorem dX3_sumParts_16 : decode cX3_sumParts 16 = .ok (.iload 5, 2) := by decide +kernel
theorem dX3_sumParts_18 : decode cX3_sumParts 18 = .ok (.iaload, 1) := by decide +kernel
theorem dX3_sumParts_19 : decode cX3_sumParts 19 = .ok (.iload_n 2, 1) := by decide +kernel
theorem dX3_sumParts_20 : decode cX3_sumParts 20 = .ok (.if_icmp .ne 26, 3) := by decide +kernel
theorem dX3_sumParts_23 : decode cX3_sumParts 23 = .ok (.aload_n 0, 1) := by decide +kernel
theorem dX3_sumParts_24 : decode cX3_sumParts 24 = .ok (.getfield 21, 3) := by decide +kernel
theorem dX3_sumParts_27 : decode cX3_sumParts 27 = .ok (.iload 5, 2) := by decide +kernel
theorem dX3_sumParts_29 : decode cX3_sumParts 29 = .ok (.iaload, 1) := by decide +kernel
theorem dX3_sumParts_30 : decode cX3_sumParts 30 = .ok (.iload_n 3, 1) := by decide +kernel
theorem dX3_sumParts_31 : decode cX3_sumParts 31 = .ok (.if_icmp .ne 15, 3) := by decide +kernel
theorem dX3_sumParts_34 : decode cX3_sumParts 34 = .ok (.iload 4, 2) := by decide +kernel
theorem dX3_sumParts_36 : decode cX3_sumParts 36 = .ok (.aload_n 0, 1) := by decide +kernel
theorem dX3_sumParts_37 : decode cX3_sumParts 37 = .ok (.getfield 24, 3) := by decide +kernel
theorem dX3_sumParts_40 : decode cX3_sumParts 40 = .ok (.iload 5, 2) := by decide +kernel
theorem dX3_sumParts_42 : decode cX3_sumParts 42 = .ok (.iaload, 1) := by decide +kernel
theorem dX3_sumParts_43 : decode cX3_sumParts 43 = .ok (.iadd, 1) := by decide +kernel
theorem dX3_sumParts_44 : decode cX3_sumParts 44 = .ok (.istore 4, 2) := by decide +kernel
theorem dX3_sumParts_46 : decode cX3_sumParts 46 = .ok (.iinc 5 1, 3) := by decide +kernel
theorem dX3_sumParts_49 : decode cX3_sumParts 49 = .ok (.goto (-43), 3) := by decide +kernel
theorem dX3_sumParts_52 : decode cX3_sumParts 52 = .ok (.iload 4, 2) := by decide +kernel
theorem dX3_sumParts_54 : decode cX3_sumParts 54 = .ok (.ireturn, 1) := by decide +kernel
theorem dX3_longestChain_0 : decode cX3_longestChain 0 = .ok (.aload_n 0, 1) := by decide +kernel
theorem dX3_longestChain_1 : decode cX3_longestChain 1 = .ok (.iload_n 1, 1) := by decide +kernel
theorem dX3_longestChain_2 : decode cX3_longestChain 2 = .ok (.invokevirtual 47, 3) := by decide +kernel
theorem dX3_longestChain_5 : decode cX3_longestChain 5 = .ok (.lstore_n 2, 1) := by decide +kernel
theorem dX3_longestChain_6 : decode cX3_longestChain 6 = .ok (.iconst 0, 1) := by decide +kernel
theorem dX3_longestChain_7 : decode cX3_longestChain 7 = .ok (.istore 4, 2) := by decide +kernel
theorem dX3_longestChain_9 : decode cX3_longestChain 9 = .ok (.iconst 0, 1) := by decide +kernel
theorem dX3_longestChain_10 : decode cX3_longestChain 10 = .ok (.istore 5, 2) := by decide +kernel
theorem dX3_longestChain_12 : decode cX3_longestChain 12 = .ok (.iload 5, 2) := by decide +kernel
theorem dX3_longestChain_14 : decode cX3_longestChain 14 = .ok (.bipush 6, 2) := by decide +kernel
theorem dX3_longestChain_16 : decode cX3_longestChain 16 = .ok (.if_icmp .ge 27, 3) := by decide +kernel
theorem dX3_longestChain_19 : decode cX3_longestChain 19 = .ok (.iload 4, 2) := by decide +kernel
theorem dX3_longestChain_21 : decode cX3_longestChain 21 = .ok (.lload_n 2, 1) := by decide +kernel
theorem dX3_longestChain_22 : decode cX3_longestChain 22 = .ok (.iload 5, 2) := by decide +kernel
theorem dX3_longestChain_24 : decode cX3_longestChain 24 = .ok (.iconst 1, 1) := by decide +kernel
theorem dX3_longestChain_25 : decode cX3_longestChain 25 = .ok (.iload 5, 2) := by decide +kernel
theorem dX3_longestChain_27 : decode cX3_longestChain 27 = .ok (.ishl, 1) := by decide +kernel
theorem dX3_longestChain_28 : decode cX3_longestChain 28 = .ok (.iconst 1, 1) := by decide +kernel
theorem dX3_longestChain_29 : decode cX3_longestChain 29 = .ok (.invokestatic 51, 3) := by decide +kernel
theorem dX3_longestChain_32 : decode cX3_longestChain 32 = .ok (.invokestatic 55, 3) := by decide +kernel
theorem dX3_longestChain_35 : decode cX3_longestChain 35 = .ok (.istore 4, 2) := by decide +kernel
theorem dX3_longestChain_37 : decode cX3_longestChain 37 = .ok (.iinc 5 1, 3) := by decide +kernel
theorem dX3_longestChain_40 : decode cX3_longestChain 40 = .ok (.goto (-28), 3) := by decide +kernel
theorem dX3_longestChain_43 : decode cX3_longestChain 43 = .ok (.iload 4, 2) := by decide +kernel
theorem dX3_longestChain_45 : decode cX3_longestChain 45 = .ok (.ireturn, 1) := by decide +kernel
theorem dX3_linksOf_0 : decode cX3_linksOf 0 = .ok (.lconst 0, 1) := by decide +kernel
theorem dX3_linksOf_1 : decode cX3_linksOf 1 = .ok (.lstore_n 2, 1) := by decide +kernel
theorem dX3_linksOf_2 : decode cX3_linksOf 2 = .ok (.iconst 0, 1) := by decide +kernel
theorem dX3_linksOf_3 : decode cX3_linksOf 3 = .ok (.istore 4, 2) := by decide +kernel
theorem dX3_linksOf_5 : decode cX3_linksOf 5 = .ok (.iload 4, 2) := by decide +kernel
theorem dX3_linksOf_7 : decode cX3_linksOf 7 = .ok (.aload_n 0, 1) := by decide +kernel
theorem dX3_linksOf_8 : decode cX3_linksOf 8 = .ok (.getfield 27, 3) := by decide +kernel
theorem dX3_linksOf_11 : decode cX3_linksOf 11 = .ok (.if_icmp .ge 43, 3) := by decide +kernel
theorem dX3_linksOf_14 : decode cX3_linksOf 14 = .ok (.aload_n 0, 1) := by decide +kernel
theorem dX3_linksOf_15 : decode cX3_linksOf 15 = .ok (.getfield 21, 3) := by decide +kernel
theorem dX3_linksOf_18 : decode cX3_linksOf 18 = .ok (.iload 4, 2) := by decide +kernel
theorem dX3_linksOf_20 : decode cX3_linksOf 20 = .ok (.iaload, 1) := by decide +kernel
theorem dX3_linksOf_21 : decode cX3_linksOf 21 = .ok (.iload_n 1, 1) := by decide +kernel
theorem dX3_linksOf_22 : decode cX3_linksOf 22 = .ok (.if_icmp .ne 26, 3) := by decide +kernel
theorem dX3_linksOf_25 : decode cX3_linksOf 25 = .ok (.lload_n 2, 1) := by decide +kernel
theorem dX3_linksOf_26 : decode cX3_linksOf 26 = .ok (.lconst 1, 1) := by decide +kernel
theorem dX3_linksOf_27 : decode cX3_linksOf 27 = .ok (.aload_n 0, 1) := by decide +kernel
theorem dX3_linksOf_28 : decode cX3_linksOf 28 = .ok (.getfield 15, 3) := by decide +kernel
theorem dX3_linksOf_31 : decode cX3_linksOf 31 = .ok (.iload 4, 2) := by decide +kernel
theorem dX3_linksOf_33 : decode cX3_linksOf 33 = .ok (.iaload, 1) := by decide +kernel
theorem dX3_linksOf_34 : decode cX3_linksOf 34 = .ok (.bipush 6, 2) := by decide +kernel
theorem dX3_linksOf_36 : decode cX3_linksOf 36 = .ok (.imul, 1) := by decide +kernel
theorem dX3_linksOf_37 : decode cX3_linksOf 37 = .ok (.aload_n 0, 1) := by decide +kernel
theorem dX3_linksOf_38 : decode cX3_linksOf 38 = .ok (.getfield 18, 3) := by decide +kernel
theorem dX3_linksOf_41 : decode cX3_linksOf 41 = .ok (.iload 4, 2) := by decide +kernel
theorem dX3_linksOf_43 : decode cX3_linksOf 43 = .ok (.iaload, 1) := by decide +kernel
theorem dX3_linksOf_44 : decode cX3_linksOf 44 = .ok (.iadd, 1) := by decide +kernel
theorem dX3_linksOf_45 : decode cX3_linksOf 45 = .ok (.lshl, 1) := by decide +kernel
theorem dX3_linksOf_46 : decode cX3_linksOf 46 = .ok (.lor, 1) := by decide +kernel
theorem dX3_linksOf_47 : decode cX3_linksOf 47 = .ok (.lstore_n 2, 1) := by decide +kernel
theorem dX3_linksOf_48 : decode cX3_linksOf 48 = .ok (.iinc 4 1, 3) := by decide +kernel
theorem dX3_linksOf_51 : decode cX3_linksOf 51 = .ok (.goto (-46), 3) := by decide +kernel
theorem dX3_linksOf_54 : decode cX3_linksOf 54 = .ok (.lload_n 2, 1) := by decide +kernel
theorem dX3_linksOf_55 : decode cX3_linksOf 55 = .ok (.lreturn, 1) := by decide +kernel
theorem dX3_longestFrom_0 : decode cX3_longestFrom 0 = .ok (.iload 4, 2) := by decide +kernel
theorem dX3_longestFrom_2 : decode cX3_longestFrom 2 = .ok (.bipush 6, 2) := by decide +kernel
theorem dX3_longestFrom_4 : decode cX3_longestFrom 4 = .ok (.if_icmp .lt 5, 3) := by decide +kernel
theorem dX3_longestFrom_7 : decode cX3_longestFrom 7 = .ok (.iconst 0, 1) := by decide +kernel
theorem dX3_longestFrom_8 : decode cX3_longestFrom 8 = .ok (.ireturn, 1) := by decide +kernel
theorem dX3_longestFrom_9 : decode cX3_longestFrom 9 = .ok (.iconst 0, 1) := by decide +kernel
theorem dX3_longestFrom_10 : decode cX3_longestFrom 10 = .ok (.istore 5, 2) := by decide +kernel
theorem dX3_longestFrom_12 : decode cX3_longestFrom 12 = .ok (.iconst 0, 1) := by decide +kernel
theorem dX3_longestFrom_13 : decode cX3_longestFrom 13 = .ok (.istore 6, 2) := by decide +kernel
theorem dX3_longestFrom_15 : decode cX3_longestFrom 15 = .ok (.iload 6, 2) := by decide +kernel
theorem dX3_longestFrom_17 : decode cX3_longestFrom 17 = .ok (.bipush 6, 2) := by decide +kernel
theorem dX3_longestFrom_19 : decode cX3_longestFrom 19 = .ok (.if_icmp .ge 83, 3) := by decide +kernel
theorem dX3_longestFrom_22 : decode cX3_longestFrom 22 = .ok (.lload_n 0, 1) := by decide +kernel
theorem dX3_longestFrom_23 : decode cX3_longestFrom 23 = .ok (.iload_n 2, 1) := by decide +kernel
theorem dX3_longestFrom_24 : decode cX3_longestFrom 24 = .ok (.bipush 6, 2) := by decide +kernel
theorem dX3_longestFrom_26 : decode cX3_longestFrom 26 = .ok (.imul, 1) := by decide +kernel
theorem dX3_longestFrom_27 : decode cX3_longestFrom 27 = .ok (.iload 6, 2) := by decide +kernel
theorem dX3_longestFrom_29 : decode cX3_longestFrom 29 = .ok (.iadd, 1) := by decide +kernel
theorem dX3_longestFrom_30 : decode cX3_longestFrom 30 = .ok (.lshr, 1) := by decide +kernel
theorem dX3_longestFrom_31 : decode cX3_longestFrom 31 = .ok (.lconst 1, 1) := by decide +kernel
theorem dX3_longestFrom_32 : decode cX3_longestFrom 32 = .ok (.land, 1) := by decide +kernel
theorem dX3_longestFrom_33 : decode cX3_longestFrom 33 = .ok (.lconst 0, 1) := by decide +kernel
theorem dX3_longestFrom_34 : decode cX3_longestFrom 34 = .ok (.lcmp, 1) := by decide +kernel
theorem dX3_longestFrom_35 : decode cX3_longestFrom 35 = .ok (.ifCond .eq 7, 3) := by decide +kernel
theorem dX3_longestFrom_38 : decode cX3_longestFrom 38 = .ok (.iconst 1, 1) := by decide +kernel
theorem dX3_longestFrom_39 : decode cX3_longestFrom 39 = .ok (.goto 4, 3) := by decide +kernel
theorem dX3_longestFrom_42 : decode cX3_longestFrom 42 = .ok (.iconst 0, 1) := by decide +kernel
theorem dX3_longestFrom_43 : decode cX3_longestFrom 43 = .ok (.istore 7, 2) := by decide +kernel
theorem dX3_longestFrom_45 : decode cX3_longestFrom 45 = .ok (.iload_n 3, 1) := by decide +kernel
theorem dX3_longestFrom_46 : decode cX3_longestFrom 46 = .ok (.iload 6, 2) := by decide +kernel
theorem dX3_longestFrom_48 : decode cX3_longestFrom 48 = .ok (.ishr, 1) := by decide +kernel
theorem dX3_longestFrom_49 : decode cX3_longestFrom 49 = .ok (.iconst 1, 1) := by decide +kernel
theorem dX3_longestFrom_50 : decode cX3_longestFrom 50 = .ok (.iand, 1) := by decide +kernel
theorem dX3_longestFrom_51 : decode cX3_longestFrom 51 = .ok (.ifCond .eq 7, 3) := by decide +kernel
theorem dX3_longestFrom_54 : decode cX3_longestFrom 54 = .ok (.iconst 1, 1) := by decide +kernel
theorem dX3_longestFrom_55 : decode cX3_longestFrom 55 = .ok (.goto 4, 3) := by decide +kernel
theorem dX3_longestFrom_58 : decode cX3_longestFrom 58 = .ok (.iconst 0, 1) := by decide +kernel
theorem dX3_longestFrom_59 : decode cX3_longestFrom 59 = .ok (.istore 8, 2) := by decide +kernel
theorem dX3_longestFrom_61 : decode cX3_longestFrom 61 = .ok (.iload 7, 2) := by decide +kernel
theorem dX3_longestFrom_63 : decode cX3_longestFrom 63 = .ok (.ifCond .eq 33, 3) := by decide +kernel
theorem dX3_longestFrom_66 : decode cX3_longestFrom 66 = .ok (.iload 8, 2) := by decide +kernel
theorem dX3_longestFrom_68 : decode cX3_longestFrom 68 = .ok (.ifCond .ne 28, 3) := by decide +kernel
theorem dX3_longestFrom_71 : decode cX3_longestFrom 71 = .ok (.iload 5, 2) := by decide +kernel
theorem dX3_longestFrom_73 : decode cX3_longestFrom 73 = .ok (.iconst 1, 1) := by decide +kernel
theorem dX3_longestFrom_74 : decode cX3_longestFrom 74 = .ok (.lload_n 0, 1) := by decide +kernel
theorem dX3_longestFrom_75 : decode cX3_longestFrom 75 = .ok (.iload 6, 2) := by decide +kernel
theorem dX3_longestFrom_77 : decode cX3_longestFrom 77 = .ok (.iload_n 3, 1) := by decide +kernel
theorem dX3_longestFrom_78 : decode cX3_longestFrom 78 = .ok (.iconst 1, 1) := by decide +kernel
theorem dX3_longestFrom_79 : decode cX3_longestFrom 79 = .ok (.iload 6, 2) := by decide +kernel
theorem dX3_longestFrom_81 : decode cX3_longestFrom 81 = .ok (.ishl, 1) := by decide +kernel
theorem dX3_longestFrom_82 : decode cX3_longestFrom 82 = .ok (.ior, 1) := by decide +kernel
theorem dX3_longestFrom_83 : decode cX3_longestFrom 83 = .ok (.iload 4, 2) := by decide +kernel
theorem dX3_longestFrom_85 : decode cX3_longestFrom 85 = .ok (.iconst 1, 1) := by decide +kernel
theorem dX3_longestFrom_86 : decode cX3_longestFrom 86 = .ok (.iadd, 1) := by decide +kernel
theorem dX3_longestFrom_87 : decode cX3_longestFrom 87 = .ok (.invokestatic 51, 3) := by decide +kernel
theorem dX3_longestFrom_90 : decode cX3_longestFrom 90 = .ok (.iadd, 1) := by decide +kernel
theorem dX3_longestFrom_91 : decode cX3_longestFrom 91 = .ok (.invokestatic 55, 3) := by decide +kernel
theorem dX3_longestFrom_94 : decode cX3_longestFrom 94 = .ok (.istore 5, 2) := by decide +kernel
theorem dX3_longestFrom_96 : decode cX3_longestFrom 96 = .ok (.iinc 6 1, 3) := by decide +kernel
theorem dX3_longestFrom_99 : decode cX3_longestFrom 99 = .ok (.goto (-84), 3) := by decide +kernel
theorem dX3_longestFrom_102 : decode cX3_longestFrom 102 = .ok (.iload 5, 2) := by decide +kernel
theorem dX3_longestFrom_104 : decode cX3_longestFrom 104 = .ok (.ireturn, 1) := by decide +kernel
theorem dX4_init_0 : decode cX4_init 0 = .ok (.aload_n 0, 1) := by decide +kernel
theorem dX4_init_1 : decode cX4_init 1 = .ok (.invokespecial 3, 3) := by decide +kernel
theorem dX4_init_4 : decode cX4_init 4 = .ok (.aload_n 0, 1) := by decide +kernel
theorem dX4_init_5 : decode cX4_init 5 = .ok (.bipush 6, 2) := by decide +kernel
theorem dX4_init_7 : decode cX4_init 7 = .ok (.newarray .int, 2) := by decide +kernel
theorem dX4_init_9 : decode cX4_init 9 = .ok (.putfield 9, 3) := by decide +kernel
theorem dX4_init_12 : decode cX4_init 12 = .ok (.aload_n 0, 1) := by decide +kernel
theorem dX4_init_13 : decode cX4_init 13 = .ok (.bipush 6, 2) := by decide +kernel
theorem dX4_init_15 : decode cX4_init 15 = .ok (.newarray .int, 2) := by decide +kernel
theorem dX4_init_17 : decode cX4_init 17 = .ok (.putfield 15, 3) := by decide +kernel
theorem dX4_init_20 : decode cX4_init 20 = .ok (.aload_n 0, 1) := by decide +kernel
theorem dX4_init_21 : decode cX4_init 21 = .ok (.bipush 6, 2) := by decide +kernel
theorem dX4_init_23 : decode cX4_init 23 = .ok (.newarray .int, 2) := by decide +kernel
theorem dX4_init_25 : decode cX4_init 25 = .ok (.putfield 18, 3) := by decide +kernel
theorem dX4_init_28 : decode cX4_init 28 = .ok (.aload_n 0, 1) := by decide +kernel
theorem dX4_init_29 : decode cX4_init 29 = .ok (.bipush 36, 2) := by decide +kernel
theorem dX4_init_31 : decode cX4_init 31 = .ok (.newarray .int, 2) := by decide +kernel
theorem dX4_init_33 : decode cX4_init 33 = .ok (.putfield 21, 3) := by decide +kernel
theorem dX4_init_36 : decode cX4_init 36 = .ok (.aload_n 0, 1) := by decide +kernel
theorem dX4_init_37 : decode cX4_init 37 = .ok (.bipush 6, 2) := by decide +kernel
theorem dX4_init_39 : decode cX4_init 39 = .ok (.newarray .int, 2) := by decide +kernel
theorem dX4_init_41 : decode cX4_init 41 = .ok (.putfield 24, 3) := by decide +kernel
theorem dX4_init_44 : decode cX4_init 44 = .ok (.aload_n 0, 1) := by decide +kernel
theorem dX4_init_45 : decode cX4_init 45 = .ok (.new 27, 3) := by decide +kernel
theorem dX4_init_48 : decode cX4_init 48 = .ok (.dup, 1) := by decide +kernel
theorem dX4_init_49 : decode cX4_init 49 = .ok (.invokespecial 29, 3) := by decide +kernel
theorem dX4_init_52 : decode cX4_init 52 = .ok (.putfield 30, 3) := by decide +kernel
theorem dX4_init_55 : decode cX4_init 55 = .ok (.aload_n 0, 1) := by decide +kernel
theorem dX4_init_56 : decode cX4_init 56 = .ok (.new 34, 3) := by decide +kernel
theorem dX4_init_59 : decode cX4_init 59 = .ok (.dup, 1) := by decide +kernel
theorem dX4_init_60 : decode cX4_init 60 = .ok (.invokespecial 36, 3) := by decide +kernel
theorem dX4_init_63 : decode cX4_init 63 = .ok (.putfield 37, 3) := by decide +kernel
theorem dX4_init_66 : decode cX4_init 66 = .ok (.iconst 0, 1) := by decide +kernel
theorem dX4_init_67 : decode cX4_init 67 = .ok (.istore_n 1, 1) := by decide +kernel
theorem dX4_init_68 : decode cX4_init 68 = .ok (.iload_n 1, 1) := by decide +kernel
theorem dX4_init_69 : decode cX4_init 69 = .ok (.bipush 6, 2) := by decide +kernel
theorem dX4_init_71 : decode cX4_init 71 = .ok (.if_icmp .ge 29, 3) := by decide +kernel
theorem dX4_init_74 : decode cX4_init 74 = .ok (.aload_n 0, 1) := by decide +kernel
theorem dX4_init_75 : decode cX4_init 75 = .ok (.getfield 18, 3) := by decide +kernel
theorem dX4_init_78 : decode cX4_init 78 = .ok (.iload_n 1, 1) := by decide +kernel
theorem dX4_init_79 : decode cX4_init 79 = .ok (.iload_n 1, 1) := by decide +kernel
theorem dX4_init_80 : decode cX4_init 80 = .ok (.iastore, 1) := by decide +kernel
theorem dX4_init_81 : decode cX4_init 81 = .ok (.aload_n 0, 1) := by decide +kernel
theorem dX4_init_82 : decode cX4_init 82 = .ok (.getfield 21, 3) := by decide +kernel
theorem dX4_init_85 : decode cX4_init 85 = .ok (.iload_n 1, 1) := by decide +kernel
theorem dX4_init_86 : decode cX4_init 86 = .ok (.bipush 6, 2) := by decide +kernel
theorem dX4_init_88 : decode cX4_init 88 = .ok (.imul, 1) := by decide +kernel
theorem dX4_init_89 : decode cX4_init 89 = .ok (.iload_n 1, 1) := by decide +kernel
theorem dX4_init_90 : decode cX4_init 90 = .ok (.iadd, 1) := by decide +kernel
theorem dX4_init_91 : decode cX4_init 91 = .ok (.bipush 64, 2) := by decide +kernel
theorem dX4_init_93 : decode cX4_init 93 = .ok (.iastore, 1) := by decide +kernel
theorem dX4_init_94 : decode cX4_init 94 = .ok (.iinc 1 1, 3) := by decide +kernel
theorem dX4_init_97 : decode cX4_init 97 = .ok (.goto (-29), 3) := by decide +kernel
theorem dX4_init_100 : decode cX4_init 100 = .ok (.return_, 1) := by decide +kernel
theorem dX4_copyFrom_0 : decode cX4_copyFrom 0 = .ok (.aload_n 1, 1) := by decide +kernel
theorem dX4_copyFrom_1 : decode cX4_copyFrom 1 = .ok (.getfield 9, 3) := by decide +kernel
theorem dX4_copyFrom_4 : decode cX4_copyFrom 4 = .ok (.iconst 0, 1) := by decide +kernel
theorem dX4_copyFrom_5 : decode cX4_copyFrom 5 = .ok (.aload_n 0, 1) := by decide +kernel
theorem dX4_copyFrom_6 : decode cX4_copyFrom 6 = .ok (.getfield 9, 3) := by decide +kernel
theorem dX4_copyFrom_9 : decode cX4_copyFrom 9 = .ok (.iconst 0, 1) := by decide +kernel
theorem dX4_copyFrom_10 : decode cX4_copyFrom 10 = .ok (.bipush 6, 2) := by decide +kernel
theorem dX4_copyFrom_12 : decode cX4_copyFrom 12 = .ok (.invokestatic 41, 3) := by decide +kernel
theorem dX4_copyFrom_15 : decode cX4_copyFrom 15 = .ok (.aload_n 1, 1) := by decide +kernel
theorem dX4_copyFrom_16 : decode cX4_copyFrom 16 = .ok (.getfield 15, 3) := by decide +kernel
theorem dX4_copyFrom_19 : decode cX4_copyFrom 19 = .ok (.iconst 0, 1) := by decide +kernel
theorem dX4_copyFrom_20 : decode cX4_copyFrom 20 = .ok (.aload_n 0, 1) := by decide +kernel
theorem dX4_copyFrom_21 : decode cX4_copyFrom 21 = .ok (.getfield 15, 3) := by decide +kernel
theorem dX4_copyFrom_24 : decode cX4_copyFrom 24 = .ok (.iconst 0, 1) := by decide +kernel
theorem dX4_copyFrom_25 : decode cX4_copyFrom 25 = .ok (.bipush 6, 2) := by decide +kernel
theorem dX4_copyFrom_27 : decode cX4_copyFrom 27 = .ok (.invokestatic 41, 3) := by decide +kernel
theorem dX4_copyFrom_30 : decode cX4_copyFrom 30 = .ok (.aload_n 1, 1) := by decide +kernel
theorem dX4_copyFrom_31 : decode cX4_copyFrom 31 = .ok (.getfield 18, 3) := by decide +kernel
theorem dX4_copyFrom_34 : decode cX4_copyFrom 34 = .ok (.iconst 0, 1) := by decide +kernel
theorem dX4_copyFrom_35 : decode cX4_copyFrom 35 = .ok (.aload_n 0, 1) := by decide +kernel
theorem dX4_copyFrom_36 : decode cX4_copyFrom 36 = .ok (.getfield 18, 3) := by decide +kernel
theorem dX4_copyFrom_39 : decode cX4_copyFrom 39 = .ok (.iconst 0, 1) := by decide +kernel
theorem dX4_copyFrom_40 : decode cX4_copyFrom 40 = .ok (.bipush 6, 2) := by decide +kernel
theorem dX4_copyFrom_42 : decode cX4_copyFrom 42 = .ok (.invokestatic 41, 3) := by decide +kernel
theorem dX4_copyFrom_45 : decode cX4_copyFrom 45 = .ok (.aload_n 1, 1) := by decide +kernel
theorem dX4_copyFrom_46 : decode cX4_copyFrom 46 = .ok (.getfield 21, 3) := by decide +kernel
theorem dX4_copyFrom_49 : decode cX4_copyFrom 49 = .ok (.iconst 0, 1) := by decide +kernel
theorem dX4_copyFrom_50 : decode cX4_copyFrom 50 = .ok (.aload_n 0, 1) := by decide +kernel
theorem dX4_copyFrom_51 : decode cX4_copyFrom 51 = .ok (.getfield 21, 3) := by decide +kernel
theorem dX4_copyFrom_54 : decode cX4_copyFrom 54 = .ok (.iconst 0, 1) := by decide +kernel
theorem dX4_copyFrom_55 : decode cX4_copyFrom 55 = .ok (.bipush 36, 2) := by decide +kernel
theorem dX4_copyFrom_57 : decode cX4_copyFrom 57 = .ok (.invokestatic 41, 3) := by decide +kernel
theorem dX4_copyFrom_60 : decode cX4_copyFrom 60 = .ok (.aload_n 1, 1) := by decide +kernel
theorem dX4_copyFrom_61 : decode cX4_copyFrom 61 = .ok (.getfield 24, 3) := by decide +kernel
theorem dX4_copyFrom_64 : decode cX4_copyFrom 64 = .ok (.iconst 0, 1) := by decide +kernel
theorem dX4_copyFrom_65 : decode cX4_copyFrom 65 = .ok (.aload_n 0, 1) := by decide +kernel
theorem dX4_copyFrom_66 : decode cX4_copyFrom 66 = .ok (.getfield 24, 3) := by decide +kernel
theorem dX4_copyFrom_69 : decode cX4_copyFrom 69 = .ok (.iconst 0, 1) := by decide +kernel
theorem dX4_copyFrom_70 : decode cX4_copyFrom 70 = .ok (.bipush 6, 2) := by decide +kernel
theorem dX4_copyFrom_72 : decode cX4_copyFrom 72 = .ok (.invokestatic 41, 3) := by decide +kernel
theorem dX4_copyFrom_75 : decode cX4_copyFrom 75 = .ok (.aload_n 0, 1) := by decide +kernel
theorem dX4_copyFrom_76 : decode cX4_copyFrom 76 = .ok (.getfield 30, 3) := by decide +kernel
theorem dX4_copyFrom_79 : decode cX4_copyFrom 79 = .ok (.aload_n 1, 1) := by decide +kernel
theorem dX4_copyFrom_80 : decode cX4_copyFrom 80 = .ok (.getfield 30, 3) := by decide +kernel
theorem dX4_copyFrom_83 : decode cX4_copyFrom 83 = .ok (.invokevirtual 47, 3) := by decide +kernel
theorem dX4_copyFrom_86 : decode cX4_copyFrom 86 = .ok (.aload_n 0, 1) := by decide +kernel
theorem dX4_copyFrom_87 : decode cX4_copyFrom 87 = .ok (.getfield 37, 3) := by decide +kernel
theorem dX4_copyFrom_90 : decode cX4_copyFrom 90 = .ok (.aload_n 1, 1) := by decide +kernel
theorem dX4_copyFrom_91 : decode cX4_copyFrom 91 = .ok (.getfield 37, 3) := by decide +kernel
theorem dX4_copyFrom_94 : decode cX4_copyFrom 94 = .ok (.invokevirtual 51, 3) := by decide +kernel
theorem dX4_copyFrom_97 : decode cX4_copyFrom 97 = .ok (.aload_n 0, 1) := by decide +kernel
theorem dX4_copyFrom_98 : decode cX4_copyFrom 98 = .ok (.aload_n 1, 1) := by decide +kernel
theorem dX4_copyFrom_99 : decode cX4_copyFrom 99 = .ok (.getfield 54, 3) := by decide +kernel
theorem dX4_copyFrom_102 : decode cX4_copyFrom 102 = .ok (.putfield 54, 3) := by decide +kernel
theorem dX4_copyFrom_105 : decode cX4_copyFrom 105 = .ok (.return_, 1) := by decide +kernel
theorem dX4_heldBy_0 : decode cX4_heldBy 0 = .ok (.aload_n 0, 1) := by decide +kernel
theorem dX4_heldBy_1 : decode cX4_heldBy 1 = .ok (.getfield 21, 3) := by decide +kernel
theorem dX4_heldBy_4 : decode cX4_heldBy 4 = .ok (.iload_n 2, 1) := by decide +kernel
theorem dX4_heldBy_5 : decode cX4_heldBy 5 = .ok (.bipush 6, 2) := by decide +kernel
theorem dX4_heldBy_7 : decode cX4_heldBy 7 = .ok (.imul, 1) := by decide +kernel
theorem dX4_heldBy_8 : decode cX4_heldBy 8 = .ok (.iload_n 1, 1) := by decide +kernel
theorem dX4_heldBy_9 : decode cX4_heldBy 9 = .ok (.iadd, 1) := by decide +kernel
theorem dX4_heldBy_10 : decode cX4_heldBy 10 = .ok (.iaload, 1) := by decide +kernel
theorem dX4_heldBy_11 : decode cX4_heldBy 11 = .ok (.ireturn, 1) := by decide +kernel
theorem dX4_isHolding_0 : decode cX4_isHolding 0 = .ok (.aload_n 0, 1) := by decide +kernel
theorem dX4_isHolding_1 : decode cX4_isHolding 1 = .ok (.getfield 24, 3) := by decide +kernel
theorem dX4_isHolding_4 : decode cX4_isHolding 4 = .ok (.iload_n 2, 1) := by decide +kernel
theorem dX4_isHolding_5 : decode cX4_isHolding 5 = .ok (.iaload, 1) := by decide +kernel
theorem dX4_isHolding_6 : decode cX4_isHolding 6 = .ok (.iconst 1, 1) := by decide +kernel
theorem dX4_isHolding_7 : decode cX4_isHolding 7 = .ok (.iload_n 1, 1) := by decide +kernel
theorem dX4_isHolding_8 : decode cX4_isHolding 8 = .ok (.ishl, 1) := by decide +kernel
theorem dX4_isHolding_9 : decode cX4_isHolding 9 = .ok (.iand, 1) := by decide +kernel
theorem dX4_isHolding_10 : decode cX4_isHolding 10 = .ok (.ifCond .eq 7, 3) := by decide +kernel
theorem dX4_isHolding_13 : decode cX4_isHolding 13 = .ok (.iconst 1, 1) := by decide +kernel
theorem dX4_isHolding_14 : decode cX4_isHolding 14 = .ok (.goto 4, 3) := by decide +kernel
theorem dX4_isHolding_17 : decode cX4_isHolding 17 = .ok (.iconst 0, 1) := by decide +kernel
theorem dX4_isHolding_18 : decode cX4_isHolding 18 = .ok (.ireturn, 1) := by decide +kernel
theorem dX4_makeLoan_0 : decode cX4_makeLoan 0 = .ok (.iload_n 1, 1) := by decide +kernel
theorem dX4_makeLoan_1 : decode cX4_makeLoan 1 = .ok (.invokestatic 58, 3) := by decide +kernel
theorem dX4_makeLoan_4 : decode cX4_makeLoan 4 = .ok (.ifCond .eq 17, 3) := by decide +kernel
theorem dX4_makeLoan_7 : decode cX4_makeLoan 7 = .ok (.iload_n 2, 1) := by decide +kernel
theorem dX4_makeLoan_8 : decode cX4_makeLoan 8 = .ok (.invokestatic 58, 3) := by decide +kernel
theorem dX4_makeLoan_11 : decode cX4_makeLoan 11 = .ok (.ifCond .eq 10, 3) := by decide +kernel
theorem dX4_makeLoan_14 : decode cX4_makeLoan 14 = .ok (.iload_n 3, 1) := by decide +kernel
theorem dX4_makeLoan_15 : decode cX4_makeLoan 15 = .ok (.invokestatic 62, 3) := by decide +kernel
theorem dX4_makeLoan_18 : decode cX4_makeLoan 18 = .ok (.ifCond .ne 5, 3) := by decide +kernel
theorem dX4_makeLoan_21 : decode cX4_makeLoan 21 = .ok (.iconst (-1), 1) := by decide +kernel
theorem dX4_makeLoan_22 : decode cX4_makeLoan 22 = .ok (.ireturn, 1) := by decide +kernel
theorem dX4_makeLoan_23 : decode cX4_makeLoan 23 = .ok (.iload 4, 2) := by decide +kernel
theorem dX4_makeLoan_25 : decode cX4_makeLoan 25 = .ok (.iconst 1, 1) := by decide +kernel
theorem dX4_makeLoan_26 : decode cX4_makeLoan 26 = .ok (.if_icmp .lt 15, 3) := by decide +kernel
theorem dX4_makeLoan_29 : decode cX4_makeLoan 29 = .ok (.iload 4, 2) := by decide +kernel
theorem dX4_makeLoan_31 : decode cX4_makeLoan 31 = .ok (.bipush 64, 2) := by decide +kernel
theorem dX4_makeLoan_33 : decode cX4_makeLoan 33 = .ok (.if_icmp .gt 8, 3) := by decide +kernel
theorem dX4_makeLoan_36 : decode cX4_makeLoan 36 = .ok (.iload_n 1, 1) := by decide +kernel
theorem dX4_makeLoan_37 : decode cX4_makeLoan 37 = .ok (.iload_n 2, 1) := by decide +kernel
theorem dX4_makeLoan_38 : decode cX4_makeLoan 38 = .ok (.if_icmp .ne 6, 3) := by decide +kernel
theorem dX4_makeLoan_41 : decode cX4_makeLoan 41 = .ok (.bipush (-2), 2) := by decide +kernel
theorem dX4_makeLoan_43 : decode cX4_makeLoan 43 = .ok (.ireturn, 1) := by decide +kernel
theorem dX4_makeLoan_44 : decode cX4_makeLoan 44 = .ok (.aload_n 0, 1) := by decide +kernel
theorem dX4_makeLoan_45 : decode cX4_makeLoan 45 = .ok (.iload_n 1, 1) := by decide +kernel
theorem dX4_makeLoan_46 : decode cX4_makeLoan 46 = .ok (.iload_n 3, 1) := by decide +kernel
theorem dX4_makeLoan_47 : decode cX4_makeLoan 47 = .ok (.invokevirtual 65, 3) := by decide +kernel
theorem dX4_makeLoan_50 : decode cX4_makeLoan 50 = .ok (.iload 4, 2) := by decide +kernel
theorem dX4_makeLoan_52 : decode cX4_makeLoan 52 = .ok (.if_icmp .lt 12, 3) := by decide +kernel
theorem dX4_makeLoan_55 : decode cX4_makeLoan 55 = .ok (.aload_n 0, 1) := by decide +kernel
theorem dX4_makeLoan_56 : decode cX4_makeLoan 56 = .ok (.iload_n 1, 1) := by decide +kernel
theorem dX4_makeLoan_57 : decode cX4_makeLoan 57 = .ok (.iload_n 3, 1) := by decide +kernel
theorem dX4_makeLoan_58 : decode cX4_makeLoan 58 = .ok (.invokevirtual 69, 3) := by decide +kernel
theorem dX4_makeLoan_61 : decode cX4_makeLoan 61 = .ok (.ifCond .eq 6, 3) := by decide +kernel
theorem dX4_makeLoan_64 : decode cX4_makeLoan 64 = .ok (.bipush (-4), 2) := by decide +kernel
theorem dX4_makeLoan_66 : decode cX4_makeLoan 66 = .ok (.ireturn, 1) := by decide +kernel
theorem dX4_makeLoan_67 : decode cX4_makeLoan 67 = .ok (.aload_n 0, 1) := by decide +kernel
theorem dX4_makeLoan_68 : decode cX4_makeLoan 68 = .ok (.getfield 37, 3) := by decide +kernel
theorem dX4_makeLoan_71 : decode cX4_makeLoan 71 = .ok (.invokevirtual 73, 3) := by decide +kernel
theorem dX4_makeLoan_74 : decode cX4_makeLoan 74 = .ok (.ifCond .ne 6, 3) := by decide +kernel
theorem dX4_makeLoan_77 : decode cX4_makeLoan 77 = .ok (.bipush (-3), 2) := by decide +kernel
theorem dX4_makeLoan_79 : decode cX4_makeLoan 79 = .ok (.ireturn, 1) := by decide +kernel
theorem dX4_makeLoan_80 : decode cX4_makeLoan 80 = .ok (.aload_n 0, 1) := by decide +kernel
theorem dX4_makeLoan_81 : decode cX4_makeLoan 81 = .ok (.iload_n 1, 1) := by decide +kernel
theorem dX4_makeLoan_82 : decode cX4_makeLoan 82 = .ok (.iload_n 2, 1) := by decide +kernel
theorem dX4_makeLoan_83 : decode cX4_makeLoan 83 = .ok (.iload_n 3, 1) := by decide +kernel
theorem dX4_makeLoan_84 : decode cX4_makeLoan 84 = .ok (.iload 4, 2) := by decide +kernel
theorem dX4_makeLoan_86 : decode cX4_makeLoan 86 = .ok (.invokevirtual 77, 3) := by decide +kernel
theorem dX4_makeLoan_89 : decode cX4_makeLoan 89 = .ok (.aload_n 0, 1) := by decide +kernel
theorem dX4_makeLoan_90 : decode cX4_makeLoan 90 = .ok (.getfield 37, 3) := by decide +kernel
theorem dX4_makeLoan_93 : decode cX4_makeLoan 93 = .ok (.iload_n 1, 1) := by decide +kernel
theorem dX4_makeLoan_94 : decode cX4_makeLoan 94 = .ok (.iload_n 2, 1) := by decide +kernel
theorem dX4_makeLoan_95 : decode cX4_makeLoan 95 = .ok (.iload_n 3, 1) := by decide +kernel
theorem dX4_makeLoan_96 : decode cX4_makeLoan 96 = .ok (.iload 4, 2) := by decide +kernel
theorem dX4_makeLoan_98 : decode cX4_makeLoan 98 = .ok (.invokevirtual 81, 3) := by decide +kernel
theorem dX4_makeLoan_101 : decode cX4_makeLoan 101 = .ok (.ireturn, 1) := by decide +kernel
theorem dX4_makeHalfLoan_0 : decode cX4_makeHalfLoan 0 = .ok (.iload_n 1, 1) := by decide +kernel
theorem dX4_makeHalfLoan_1 : decode cX4_makeHalfLoan 1 = .ok (.invokestatic 58, 3) := by decide +kernel
theorem dX4_makeHalfLoan_4 : decode cX4_makeHalfLoan 4 = .ok (.ifCond .eq 17, 3) := by decide +kernel
theorem dX4_makeHalfLoan_7 : decode cX4_makeHalfLoan 7 = .ok (.iload_n 2, 1) := by decide +kernel
theorem dX4_makeHalfLoan_8 : decode cX4_makeHalfLoan 8 = .ok (.invokestatic 58, 3) := by decide +kernel
theorem dX4_makeHalfLoan_11 : decode cX4_makeHalfLoan 11 = .ok (.ifCond .eq 10, 3) := by decide +kernel
theorem dX4_makeHalfLoan_14 : decode cX4_makeHalfLoan 14 = .ok (.iload_n 3, 1) := by decide +kernel
theorem dX4_makeHalfLoan_15 : decode cX4_makeHalfLoan 15 = .ok (.invokestatic 62, 3) := by decide +kernel
theorem dX4_makeHalfLoan_18 : decode cX4_makeHalfLoan 18 = .ok (.ifCond .ne 5, 3) := by decide +kernel
theorem dX4_makeHalfLoan_21 : decode cX4_makeHalfLoan 21 = .ok (.iconst (-1), 1) := by decide +kernel
theorem dX4_makeHalfLoan_22 : decode cX4_makeHalfLoan 22 = .ok (.ireturn, 1) := by decide +kernel
theorem dX4_makeHalfLoan_23 : decode cX4_makeHalfLoan 23 = .ok (.iload_n 1, 1) := by decide +kernel
theorem dX4_makeHalfLoan_24 : decode cX4_makeHalfLoan 24 = .ok (.iload_n 2, 1) := by decide +kernel
theorem dX4_makeHalfLoan_25 : decode cX4_makeHalfLoan 25 = .ok (.if_icmp .ne 6, 3) := by decide +kernel
theorem dX4_makeHalfLoan_28 : decode cX4_makeHalfLoan 28 = .ok (.bipush (-2), 2) := by decide +kernel
theorem dX4_makeHalfLoan_30 : decode cX4_makeHalfLoan 30 = .ok (.ireturn, 1) := by decide +kernel
theorem dX4_makeHalfLoan_31 : decode cX4_makeHalfLoan 31 = .ok (.aload_n 0, 1) := by decide +kernel
theorem dX4_makeHalfLoan_32 : decode cX4_makeHalfLoan 32 = .ok (.iload_n 1, 1) := by decide +kernel
theorem dX4_makeHalfLoan_33 : decode cX4_makeHalfLoan 33 = .ok (.iload_n 3, 1) := by decide +kernel
theorem dX4_makeHalfLoan_34 : decode cX4_makeHalfLoan 34 = .ok (.invokevirtual 65, 3) := by decide +kernel
theorem dX4_makeHalfLoan_37 : decode cX4_makeHalfLoan 37 = .ok (.iconst 2, 1) := by decide +kernel
theorem dX4_makeHalfLoan_38 : decode cX4_makeHalfLoan 38 = .ok (.idiv, 1) := by decide +kernel
theorem dX4_makeHalfLoan_39 : decode cX4_makeHalfLoan 39 = .ok (.istore 4, 2) := by decide +kernel
theorem dX4_makeHalfLoan_41 : decode cX4_makeHalfLoan 41 = .ok (.iload 4, 2) := by decide +kernel
theorem dX4_makeHalfLoan_43 : decode cX4_makeHalfLoan 43 = .ok (.ifCond .ne 6, 3) := by decide +kernel
theorem dX4_makeHalfLoan_46 : decode cX4_makeHalfLoan 46 = .ok (.bipush (-4), 2) := by decide +kernel
theorem dX4_makeHalfLoan_48 : decode cX4_makeHalfLoan 48 = .ok (.ireturn, 1) := by decide +kernel
theorem dX4_makeHalfLoan_49 : decode cX4_makeHalfLoan 49 = .ok (.aload_n 0, 1) := by decide +kernel
theorem dX4_makeHalfLoan_50 : decode cX4_makeHalfLoan 50 = .ok (.iload_n 1, 1) := by decide +kernel
theorem dX4_makeHalfLoan_51 : decode cX4_makeHalfLoan 51 = .ok (.iload_n 2, 1) := by decide +kernel
theorem dX4_makeHalfLoan_52 : decode cX4_makeHalfLoan 52 = .ok (.iload_n 3, 1) := by decide +kernel
theorem dX4_makeHalfLoan_53 : decode cX4_makeHalfLoan 53 = .ok (.iload 4, 2) := by decide +kernel
theorem dX4_makeHalfLoan_55 : decode cX4_makeHalfLoan 55 = .ok (.invokevirtual 85, 3) := by decide +kernel
theorem dX4_makeHalfLoan_58 : decode cX4_makeHalfLoan 58 = .ok (.istore 5, 2) := by decide +kernel
theorem dX4_makeHalfLoan_60 : decode cX4_makeHalfLoan 60 = .ok (.iload 5, 2) := by decide +kernel
theorem dX4_makeHalfLoan_62 : decode cX4_makeHalfLoan 62 = .ok (.ifCond .ge 8, 3) := by decide +kernel
theorem dX4_makeHalfLoan_65 : decode cX4_makeHalfLoan 65 = .ok (.iload 5, 2) := by decide +kernel
theorem dX4_makeHalfLoan_67 : decode cX4_makeHalfLoan 67 = .ok (.goto 5, 3) := by decide +kernel
theorem dX4_makeHalfLoan_70 : decode cX4_makeHalfLoan 70 = .ok (.iload 4, 2) := by decide +kernel
theorem dX4_makeHalfLoan_72 : decode cX4_makeHalfLoan 72 = .ok (.ireturn, 1) := by decide +kernel
theorem dX4_endLoan_0 : decode cX4_endLoan 0 = .ok (.aload_n 0, 1) := by decide +kernel
theorem dX4_endLoan_1 : decode cX4_endLoan 1 = .ok (.getfield 37, 3) := by decide +kernel
theorem dX4_endLoan_4 : decode cX4_endLoan 4 = .ok (.iload_n 1, 1) := by decide +kernel
theorem dX4_endLoan_5 : decode cX4_endLoan 5 = .ok (.invokevirtual 88, 3) := by decide +kernel
theorem dX4_endLoan_8 : decode cX4_endLoan 8 = .ok (.istore_n 2, 1) := by decide +kernel
theorem dX4_endLoan_9 : decode cX4_endLoan 9 = .ok (.iload_n 2, 1) := by decide +kernel
theorem dX4_endLoan_10 : decode cX4_endLoan 10 = .ok (.ifCond .ge 5, 3) := by decide +kernel
theorem dX4_endLoan_13 : decode cX4_endLoan 13 = .ok (.iconst (-1), 1) := by decide +kernel
theorem dX4_endLoan_14 : decode cX4_endLoan 14 = .ok (.ireturn, 1) := by decide +kernel
theorem dX4_endLoan_15 : decode cX4_endLoan 15 = .ok (.aload_n 0, 1) := by decide +kernel
theorem dX4_endLoan_16 : decode cX4_endLoan 16 = .ok (.iload_n 2, 1) := by decide +kernel
theorem dX4_endLoan_17 : decode cX4_endLoan 17 = .ok (.invokevirtual 92, 3) := by decide +kernel
theorem dX4_endLoan_20 : decode cX4_endLoan 20 = .ok (.ifCond .ne 6, 3) := by decide +kernel
theorem dX4_endLoan_23 : decode cX4_endLoan 23 = .ok (.bipush (-4), 2) := by decide +kernel
theorem dX4_endLoan_25 : decode cX4_endLoan 25 = .ok (.ireturn, 1) := by decide +kernel
theorem dX4_endLoan_26 : decode cX4_endLoan 26 = .ok (.aload_n 0, 1) := by decide +kernel
theorem dX4_endLoan_27 : decode cX4_endLoan 27 = .ok (.getfield 37, 3) := by decide +kernel
theorem dX4_endLoan_30 : decode cX4_endLoan 30 = .ok (.getfield 95, 3) := by decide +kernel
theorem dX4_endLoan_33 : decode cX4_endLoan 33 = .ok (.iload_n 2, 1) := by decide +kernel
theorem dX4_endLoan_34 : decode cX4_endLoan 34 = .ok (.iaload, 1) := by decide +kernel
theorem dX4_endLoan_35 : decode cX4_endLoan 35 = .ok (.istore_n 3, 1) := by decide +kernel
theorem dX4_endLoan_36 : decode cX4_endLoan 36 = .ok (.aload_n 0, 1) := by decide +kernel
theorem dX4_endLoan_37 : decode cX4_endLoan 37 = .ok (.getfield 37, 3) := by decide +kernel
theorem dX4_endLoan_40 : decode cX4_endLoan 40 = .ok (.getfield 98, 3) := by decide +kernel
theorem dX4_endLoan_43 : decode cX4_endLoan 43 = .ok (.iload_n 2, 1) := by decide +kernel
theorem dX4_endLoan_44 : decode cX4_endLoan 44 = .ok (.iaload, 1) := by decide +kernel
theorem dX4_endLoan_45 : decode cX4_endLoan 45 = .ok (.istore 4, 2) := by decide +kernel
theorem dX4_endLoan_47 : decode cX4_endLoan 47 = .ok (.aload_n 0, 1) := by decide +kernel
theorem dX4_endLoan_48 : decode cX4_endLoan 48 = .ok (.iload_n 2, 1) := by decide +kernel
theorem dX4_endLoan_49 : decode cX4_endLoan 49 = .ok (.invokevirtual 101, 3) := by decide +kernel
theorem dX4_endLoan_52 : decode cX4_endLoan 52 = .ok (.aload_n 0, 1) := by decide +kernel
theorem dX4_endLoan_53 : decode cX4_endLoan 53 = .ok (.iload_n 3, 1) := by decide +kernel
theorem dX4_endLoan_54 : decode cX4_endLoan 54 = .ok (.iload 4, 2) := by decide +kernel
theorem dX4_endLoan_56 : decode cX4_endLoan 56 = .ok (.invokevirtual 65, 3) := by decide +kernel
theorem dX4_endLoan_59 : decode cX4_endLoan 59 = .ok (.ireturn, 1) := by decide +kernel
theorem dX4_canEndLoan_0 : decode cX4_canEndLoan 0 = .ok (.aload_n 0, 1) := by decide +kernel
theorem dX4_canEndLoan_1 : decode cX4_canEndLoan 1 = .ok (.getfield 37, 3) := by decide +kernel
theorem dX4_canEndLoan_4 : decode cX4_canEndLoan 4 = .ok (.getfield 105, 3) := by decide +kernel
theorem dX4_canEndLoan_7 : decode cX4_canEndLoan 7 = .ok (.iload_n 1, 1) := by decide +kernel
theorem dX4_canEndLoan_8 : decode cX4_canEndLoan 8 = .ok (.iaload, 1) := by decide +kernel
theorem dX4_canEndLoan_9 : decode cX4_canEndLoan 9 = .ok (.istore_n 2, 1) := by decide +kernel
theorem dX4_canEndLoan_10 : decode cX4_canEndLoan 10 = .ok (.aload_n 0, 1) := by decide +kernel
theorem dX4_canEndLoan_11 : decode cX4_canEndLoan 11 = .ok (.getfield 37, 3) := by decide +kernel
theorem dX4_canEndLoan_14 : decode cX4_canEndLoan 14 = .ok (.getfield 98, 3) := by decide +kernel
theorem dX4_canEndLoan_17 : decode cX4_canEndLoan 17 = .ok (.iload_n 1, 1) := by decide +kernel
theorem dX4_canEndLoan_18 : decode cX4_canEndLoan 18 = .ok (.iaload, 1) := by decide +kernel
theorem dX4_canEndLoan_19 : decode cX4_canEndLoan 19 = .ok (.istore_n 3, 1) := by decide +kernel
theorem dX4_canEndLoan_20 : decode cX4_canEndLoan 20 = .ok (.aload_n 0, 1) := by decide +kernel
theorem dX4_canEndLoan_21 : decode cX4_canEndLoan 21 = .ok (.iload_n 2, 1) := by decide +kernel
theorem dX4_canEndLoan_22 : decode cX4_canEndLoan 22 = .ok (.iload_n 3, 1) := by decide +kernel
theorem dX4_canEndLoan_23 : decode cX4_canEndLoan 23 = .ok (.invokevirtual 65, 3) := by decide +kernel
theorem dX4_canEndLoan_26 : decode cX4_canEndLoan 26 = .ok (.aload_n 0, 1) := by decide +kernel
theorem dX4_canEndLoan_27 : decode cX4_canEndLoan 27 = .ok (.getfield 37, 3) := by decide +kernel
theorem dX4_canEndLoan_30 : decode cX4_canEndLoan 30 = .ok (.getfield 108, 3) := by decide +kernel
theorem dX4_canEndLoan_33 : decode cX4_canEndLoan 33 = .ok (.iload_n 1, 1) := by decide +kernel
theorem dX4_canEndLoan_34 : decode cX4_canEndLoan 34 = .ok (.iaload, 1) := by decide +kernel
theorem dX4_canEndLoan_35 : decode cX4_canEndLoan 35 = .ok (.if_icmp .lt 16, 3) := by decide +kernel
theorem dX4_canEndLoan_38 : decode cX4_canEndLoan 38 = .ok (.aload_n 0, 1) := by decide +kernel
theorem dX4_canEndLoan_39 : decode cX4_canEndLoan 39 = .ok (.iload_n 2, 1) := by decide +kernel
theorem dX4_canEndLoan_40 : decode cX4_canEndLoan 40 = .ok (.iload_n 3, 1) := by decide +kernel
theorem dX4_canEndLoan_41 : decode cX4_canEndLoan 41 = .ok (.invokevirtual 69, 3) := by decide +kernel
theorem dX4_canEndLoan_44 : decode cX4_canEndLoan 44 = .ok (.ifCond .ne 7, 3) := by decide +kernel
theorem dX4_canEndLoan_47 : decode cX4_canEndLoan 47 = .ok (.iconst 1, 1) := by decide +kernel
theorem dX4_canEndLoan_48 : decode cX4_canEndLoan 48 = .ok (.goto 4, 3) := by decide +kernel
theorem dX4_canEndLoan_51 : decode cX4_canEndLoan 51 = .ok (.iconst 0, 1) := by decide +kernel
theorem dX4_canEndLoan_52 : decode cX4_canEndLoan 52 = .ok (.ireturn, 1) := by decide +kernel
theorem dX4_returnParts_0 : decode cX4_returnParts 0 = .ok (.aload_n 0, 1) := by decide +kernel
theorem dX4_returnParts_1 : decode cX4_returnParts 1 = .ok (.aload_n 0, 1) := by decide +kernel
theorem dX4_returnParts_2 : decode cX4_returnParts 2 = .ok (.getfield 37, 3) := by decide +kernel
theorem dX4_returnParts_5 : decode cX4_returnParts 5 = .ok (.getfield 105, 3) := by decide +kernel
theorem dX4_returnParts_8 : decode cX4_returnParts 8 = .ok (.iload_n 1, 1) := by decide +kernel
theorem dX4_returnParts_9 : decode cX4_returnParts 9 = .ok (.iaload, 1) := by decide +kernel
theorem dX4_returnParts_10 : decode cX4_returnParts 10 = .ok (.aload_n 0, 1) := by decide +kernel
theorem dX4_returnParts_11 : decode cX4_returnParts 11 = .ok (.getfield 37, 3) := by decide +kernel
theorem dX4_returnParts_14 : decode cX4_returnParts 14 = .ok (.getfield 95, 3) := by decide +kernel
theorem dX4_returnParts_17 : decode cX4_returnParts 17 = .ok (.iload_n 1, 1) := by decide +kernel
theorem dX4_returnParts_18 : decode cX4_returnParts 18 = .ok (.iaload, 1) := by decide +kernel
theorem dX4_returnParts_19 : decode cX4_returnParts 19 = .ok (.aload_n 0, 1) := by decide +kernel
theorem dX4_returnParts_20 : decode cX4_returnParts 20 = .ok (.getfield 37, 3) := by decide +kernel
theorem dX4_returnParts_23 : decode cX4_returnParts 23 = .ok (.getfield 98, 3) := by decide +kernel
theorem dX4_returnParts_26 : decode cX4_returnParts 26 = .ok (.iload_n 1, 1) := by decide +kernel
theorem dX4_returnParts_27 : decode cX4_returnParts 27 = .ok (.iaload, 1) := by decide +kernel
theorem dX4_returnParts_28 : decode cX4_returnParts 28 = .ok (.aload_n 0, 1) := by decide +kernel
theorem dX4_returnParts_29 : decode cX4_returnParts 29 = .ok (.getfield 37, 3) := by decide +kernel
theorem dX4_returnParts_32 : decode cX4_returnParts 32 = .ok (.getfield 108, 3) := by decide +kernel
theorem dX4_returnParts_35 : decode cX4_returnParts 35 = .ok (.iload_n 1, 1) := by decide +kernel
theorem dX4_returnParts_36 : decode cX4_returnParts 36 = .ok (.iaload, 1) := by decide +kernel
theorem dX4_returnParts_37 : decode cX4_returnParts 37 = .ok (.invokevirtual 77, 3) := by decide +kernel
theorem dX4_returnParts_40 : decode cX4_returnParts 40 = .ok (.aload_n 0, 1) := by decide +kernel
theorem dX4_returnParts_41 : decode cX4_returnParts 41 = .ok (.getfield 37, 3) := by decide +kernel
theorem dX4_returnParts_44 : decode cX4_returnParts 44 = .ok (.iload_n 1, 1) := by decide +kernel
theorem dX4_returnParts_45 : decode cX4_returnParts 45 = .ok (.invokevirtual 111, 3) := by decide +kernel
theorem dX4_returnParts_48 : decode cX4_returnParts 48 = .ok (.return_, 1) := by decide +kernel
theorem dX4_moveParts_0 : decode cX4_moveParts 0 = .ok (.aload_n 0, 1) := by decide +kernel
theorem dX4_moveParts_1 : decode cX4_moveParts 1 = .ok (.getfield 21, 3) := by decide +kernel
theorem dX4_moveParts_4 : decode cX4_moveParts 4 = .ok (.iload_n 3, 1) := by decide +kernel
theorem dX4_moveParts_5 : decode cX4_moveParts 5 = .ok (.bipush 6, 2) := by decide +kernel
theorem dX4_moveParts_7 : decode cX4_moveParts 7 = .ok (.imul, 1) := by decide +kernel
theorem dX4_moveParts_8 : decode cX4_moveParts 8 = .ok (.iload_n 1, 1) := by decide +kernel
theorem dX4_moveParts_9 : decode cX4_moveParts 9 = .ok (.iadd, 1) := by decide +kernel
theorem dX4_moveParts_10 : decode cX4_moveParts 10 = .ok (.dup2, 1) := by decide +kernel
theorem dX4_moveParts_11 : decode cX4_moveParts 11 = .ok (.iaload, 1) := by decide +kernel
theorem dX4_moveParts_12 : decode cX4_moveParts 12 = .ok (.iload 4, 2) := by decide +kernel
theorem dX4_moveParts_14 : decode cX4_moveParts 14 = .ok (.isub, 1) := by decide +kernel
theorem dX4_moveParts_15 : decode cX4_moveParts 15 = .ok (.iastore, 1) := by decide +kernel
theorem dX4_moveParts_16 : decode cX4_moveParts 16 = .ok (.aload_n 0, 1) := by decide +kernel
theorem dX4_moveParts_17 : decode cX4_moveParts 17 = .ok (.getfield 21, 3) := by decide +kernel
theorem dX4_moveParts_20 : decode cX4_moveParts 20 = .ok (.iload_n 3, 1) := by decide +kernel
theorem dX4_moveParts_21 : decode cX4_moveParts 21 = .ok (.bipush 6, 2) := by decide +kernel
theorem dX4_moveParts_23 : decode cX4_moveParts 23 = .ok (.imul, 1) := by decide +kernel
theorem dX4_moveParts_24 : decode cX4_moveParts 24 = .ok (.iload_n 2, 1) := by decide +kernel
theorem dX4_moveParts_25 : decode cX4_moveParts 25 = .ok (.iadd, 1) := by decide +kernel
theorem dX4_moveParts_26 : decode cX4_moveParts 26 = .ok (.dup2, 1) := by decide +kernel
theorem dX4_moveParts_27 : decode cX4_moveParts 27 = .ok (.iaload, 1) := by decide +kernel
theorem dX4_moveParts_28 : decode cX4_moveParts 28 = .ok (.iload 4, 2) := by decide +kernel
theorem dX4_moveParts_30 : decode cX4_moveParts 30 = .ok (.iadd, 1) := by decide +kernel
theorem dX4_moveParts_31 : decode cX4_moveParts 31 = .ok (.iastore, 1) := by decide +kernel
theorem dX4_moveParts_32 : decode cX4_moveParts 32 = .ok (.return_, 1) := by decide +kernel
theorem dX4_setHolding_0 : decode cX4_setHolding 0 = .ok (.iload_n 1, 1) := by decide +kernel
theorem dX4_setHolding_1 : decode cX4_setHolding 1 = .ok (.invokestatic 58, 3) := by decide +kernel
theorem dX4_setHolding_4 : decode cX4_setHolding 4 = .ok (.ifCond .eq 10, 3) := by decide +kernel
theorem dX4_setHolding_7 : decode cX4_setHolding 7 = .ok (.iload_n 2, 1) := by decide +kernel
theorem dX4_setHolding_8 : decode cX4_setHolding 8 = .ok (.invokestatic 62, 3) := by decide +kernel
theorem dX4_setHolding_11 : decode cX4_setHolding 11 = .ok (.ifCond .ne 5, 3) := by decide +kernel
theorem dX4_setHolding_14 : decode cX4_setHolding 14 = .ok (.iconst (-1), 1) := by decide +kernel
theorem dX4_setHolding_15 : decode cX4_setHolding 15 = .ok (.ireturn, 1) := by decide +kernel
theorem dX4_setHolding_16 : decode cX4_setHolding 16 = .ok (.iload_n 3, 1) := by decide +kernel
theorem dX4_setHolding_17 : decode cX4_setHolding 17 = .ok (.ifCond .eq 15, 3) := by decide +kernel
theorem dX4_setHolding_20 : decode cX4_setHolding 20 = .ok (.aload_n 0, 1) := by decide +kernel
theorem dX4_setHolding_21 : decode cX4_setHolding 21 = .ok (.iload_n 1, 1) := by decide +kernel
theorem dX4_setHolding_22 : decode cX4_setHolding 22 = .ok (.iload_n 2, 1) := by decide +kernel
theorem dX4_setHolding_23 : decode cX4_setHolding 23 = .ok (.invokevirtual 65, 3) := by decide +kernel
theorem dX4_setHolding_26 : decode cX4_setHolding 26 = .ok (.ifCond .ne 6, 3) := by decide +kernel
theorem dX4_setHolding_29 : decode cX4_setHolding 29 = .ok (.bipush (-4), 2) := by decide +kernel
theorem dX4_setHolding_31 : decode cX4_setHolding 31 = .ok (.ireturn, 1) := by decide +kernel
theorem dX4_setHolding_32 : decode cX4_setHolding 32 = .ok (.iload_n 3, 1) := by decide +kernel
theorem dX4_setHolding_33 : decode cX4_setHolding 33 = .ok (.aload_n 0, 1) := by decide +kernel
theorem dX4_setHolding_34 : decode cX4_setHolding 34 = .ok (.iload_n 1, 1) := by decide +kernel
theorem dX4_setHolding_35 : decode cX4_setHolding 35 = .ok (.iload_n 2, 1) := by decide +kernel
theorem dX4_setHolding_36 : decode cX4_setHolding 36 = .ok (.invokevirtual 69, 3) := by decide +kernel
theorem dX4_setHolding_39 : decode cX4_setHolding 39 = .ok (.if_icmp .ne 6, 3) := by decide +kernel
theorem dX4_setHolding_42 : decode cX4_setHolding 42 = .ok (.bipush (-5), 2) := by decide +kernel
theorem dX4_setHolding_44 : decode cX4_setHolding 44 = .ok (.ireturn, 1) := by decide +kernel
theorem dX4_setHolding_45 : decode cX4_setHolding 45 = .ok (.aload_n 0, 1) := by decide +kernel
theorem dX4_setHolding_46 : decode cX4_setHolding 46 = .ok (.getfield 24, 3) := by decide +kernel
theorem dX4_setHolding_49 : decode cX4_setHolding 49 = .ok (.iload_n 2, 1) := by decide +kernel
theorem dX4_setHolding_50 : decode cX4_setHolding 50 = .ok (.dup2, 1) := by decide +kernel
theorem dX4_setHolding_51 : decode cX4_setHolding 51 = .ok (.iaload, 1) := by decide +kernel
theorem dX4_setHolding_52 : decode cX4_setHolding 52 = .ok (.iconst 1, 1) := by decide +kernel
theorem dX4_setHolding_53 : decode cX4_setHolding 53 = .ok (.iload_n 1, 1) := by decide +kernel
theorem dX4_setHolding_54 : decode cX4_setHolding 54 = .ok (.ishl, 1) := by decide +kernel
theorem dX4_setHolding_55 : decode cX4_setHolding 55 = .ok (.ixor, 1) := by decide +kernel
theorem dX4_setHolding_56 : decode cX4_setHolding 56 = .ok (.iastore, 1) := by decide +kernel
theorem dX4_setHolding_57 : decode cX4_setHolding 57 = .ok (.aload_n 0, 1) := by decide +kernel
theorem dX4_setHolding_58 : decode cX4_setHolding 58 = .ok (.getfield 9, 3) := by decide +kernel
theorem dX4_setHolding_61 : decode cX4_setHolding 61 = .ok (.iload_n 2, 1) := by decide +kernel
theorem dX4_setHolding_62 : decode cX4_setHolding 62 = .ok (.iaload, 1) := by decide +kernel
theorem dX4_setHolding_63 : decode cX4_setHolding 63 = .ok (.ireturn, 1) := by decide +kernel
theorem dX4_writeValue_0 : decode cX4_writeValue 0 = .ok (.iload_n 1, 1) := by decide +kernel
theorem dX4_writeValue_1 : decode cX4_writeValue 1 = .ok (.invokestatic 58, 3) := by decide +kernel
theorem dX4_writeValue_4 : decode cX4_writeValue 4 = .ok (.ifCond .eq 10, 3) := by decide +kernel
theorem dX4_writeValue_7 : decode cX4_writeValue 7 = .ok (.iload_n 2, 1) := by decide +kernel
theorem dX4_writeValue_8 : decode cX4_writeValue 8 = .ok (.invokestatic 62, 3) := by decide +kernel
theorem dX4_writeValue_11 : decode cX4_writeValue 11 = .ok (.ifCond .ne 5, 3) := by decide +kernel
theorem dX4_writeValue_14 : decode cX4_writeValue 14 = .ok (.iconst (-1), 1) := by decide +kernel
theorem dX4_writeValue_15 : decode cX4_writeValue 15 = .ok (.ireturn, 1) := by decide +kernel
theorem dX4_writeValue_16 : decode cX4_writeValue 16 = .ok (.iload_n 3, 1) := by decide +kernel
theorem dX4_writeValue_17 : decode cX4_writeValue 17 = .ok (.ifCond .lt 10, 3) := by decide +kernel
theorem dX4_writeValue_20 : decode cX4_writeValue 20 = .ok (.iload_n 3, 1) := by decide +kernel
theorem dX4_writeValue_21 : decode cX4_writeValue 21 = .ok (.sipush 999, 3) := by decide +kernel
theorem dX4_writeValue_24 : decode cX4_writeValue 24 = .ok (.if_icmp .le 6, 3) := by decide +kernel
theorem dX4_writeValue_27 : decode cX4_writeValue 27 = .ok (.bipush (-2), 2) := by decide +kernel
theorem dX4_writeValue_29 : decode cX4_writeValue 29 = .ok (.ireturn, 1) := by decide +kernel
theorem dX4_writeValue_30 : decode cX4_writeValue 30 = .ok (.aload_n 0, 1) := by decide +kernel
theorem dX4_writeValue_31 : decode cX4_writeValue 31 = .ok (.iload_n 1, 1) := by decide +kernel
theorem dX4_writeValue_32 : decode cX4_writeValue 32 = .ok (.iload_n 2, 1) := by decide +kernel
theorem dX4_writeValue_33 : decode cX4_writeValue 33 = .ok (.invokevirtual 65, 3) := by decide +kernel
theorem dX4_writeValue_36 : decode cX4_writeValue 36 = .ok (.bipush 64, 2) := by decide +kernel
theorem dX4_writeValue_38 : decode cX4_writeValue 38 = .ok (.if_icmp .eq 6, 3) := by decide +kernel
theorem dX4_writeValue_41 : decode cX4_writeValue 41 = .ok (.bipush (-4), 2) := by decide +kernel
theorem dX4_writeValue_43 : decode cX4_writeValue 43 = .ok (.ireturn, 1) := by decide +kernel
theorem dX4_writeValue_44 : decode cX4_writeValue 44 = .ok (.aload_n 0, 1) := by decide +kernel
theorem dX4_writeValue_45 : decode cX4_writeValue 45 = .ok (.getfield 9, 3) := by decide +kernel
theorem dX4_writeValue_48 : decode cX4_writeValue 48 = .ok (.iload_n 2, 1) := by decide +kernel
theorem dX4_writeValue_49 : decode cX4_writeValue 49 = .ok (.iload_n 3, 1) := by decide +kernel
theorem dX4_writeValue_50 : decode cX4_writeValue 50 = .ok (.iastore, 1) := by decide +kernel
theorem dX4_writeValue_51 : decode cX4_writeValue 51 = .ok (.aload_n 0, 1) := by decide +kernel
theorem dX4_writeValue_52 : decode cX4_writeValue 52 = .ok (.getfield 15, 3) := by decide +kernel
theorem dX4_writeValue_55 : decode cX4_writeValue 55 = .ok (.iload_n 2, 1) := by decide +kernel
theorem dX4_writeValue_56 : decode cX4_writeValue 56 = .ok (.dup2, 1) := by decide +kernel
theorem dX4_writeValue_57 : decode cX4_writeValue 57 = .ok (.iaload, 1) := by decide +kernel
theorem dX4_writeValue_58 : decode cX4_writeValue 58 = .ok (.iconst 1, 1) := by decide +kernel
theorem dX4_writeValue_59 : decode cX4_writeValue 59 = .ok (.iadd, 1) := by decide +kernel
theorem dX4_writeValue_60 : decode cX4_writeValue 60 = .ok (.iastore, 1) := by decide +kernel
theorem dX4_writeValue_61 : decode cX4_writeValue 61 = .ok (.aload_n 0, 1) := by decide +kernel
theorem dX4_writeValue_62 : decode cX4_writeValue 62 = .ok (.dup, 1) := by decide +kernel
theorem dX4_writeValue_63 : decode cX4_writeValue 63 = .ok (.getfield 54, 3) := by decide +kernel
theorem dX4_writeValue_66 : decode cX4_writeValue 66 = .ok (.iconst 1, 1) := by decide +kernel
theorem dX4_writeValue_67 : decode cX4_writeValue 67 = .ok (.iadd, 1) := by decide +kernel
theorem dX4_writeValue_68 : decode cX4_writeValue 68 = .ok (.putfield 54, 3) := by decide +kernel
theorem dX4_writeValue_71 : decode cX4_writeValue 71 = .ok (.aload_n 0, 1) := by decide +kernel
theorem dX4_writeValue_72 : decode cX4_writeValue 72 = .ok (.getfield 15, 3) := by decide +kernel
theorem dX4_writeValue_75 : decode cX4_writeValue 75 = .ok (.iload_n 2, 1) := by decide +kernel
theorem dX4_writeValue_76 : decode cX4_writeValue 76 = .ok (.iaload, 1) := by decide +kernel
theorem dX4_writeValue_77 : decode cX4_writeValue 77 = .ok (.ireturn, 1) := by decide +kernel
theorem dX4_setClaim_0 : decode cX4_setClaim 0 = .ok (.iload_n 1, 1) := by decide +kernel
theorem dX4_setClaim_1 : decode cX4_setClaim 1 = .ok (.invokestatic 58, 3) := by decide +kernel
theorem dX4_setClaim_4 : decode cX4_setClaim 4 = .ok (.ifCond .eq 10, 3) := by decide +kernel
theorem dX4_setClaim_7 : decode cX4_setClaim 7 = .ok (.iload_n 2, 1) := by decide +kernel
theorem dX4_setClaim_8 : decode cX4_setClaim 8 = .ok (.invokestatic 62, 3) := by decide +kernel
theorem dX4_setClaim_11 : decode cX4_setClaim 11 = .ok (.ifCond .ne 5, 3) := by decide +kernel
theorem dX4_setClaim_14 : decode cX4_setClaim 14 = .ok (.iconst (-1), 1) := by decide +kernel
theorem dX4_setClaim_15 : decode cX4_setClaim 15 = .ok (.ireturn, 1) := by decide +kernel
theorem dX4_setClaim_16 : decode cX4_setClaim 16 = .ok (.aload_n 0, 1) := by decide +kernel
theorem dX4_setClaim_17 : decode cX4_setClaim 17 = .ok (.getfield 30, 3) := by decide +kernel
theorem dX4_setClaim_20 : decode cX4_setClaim 20 = .ok (.iload_n 1, 1) := by decide +kernel
theorem dX4_setClaim_21 : decode cX4_setClaim 21 = .ok (.iload_n 2, 1) := by decide +kernel
theorem dX4_setClaim_22 : decode cX4_setClaim 22 = .ok (.invokevirtual 114, 3) := by decide +kernel
theorem dX4_setClaim_25 : decode cX4_setClaim 25 = .ok (.istore 4, 2) := by decide +kernel
theorem dX4_setClaim_27 : decode cX4_setClaim 27 = .ok (.iload_n 3, 1) := by decide +kernel
theorem dX4_setClaim_28 : decode cX4_setClaim 28 = .ok (.iload 4, 2) := by decide +kernel
theorem dX4_setClaim_30 : decode cX4_setClaim 30 = .ok (.ifCond .lt 7, 3) := by decide +kernel
theorem dX4_setClaim_33 : decode cX4_setClaim 33 = .ok (.iconst 1, 1) := by decide +kernel
theorem dX4_setClaim_34 : decode cX4_setClaim 34 = .ok (.goto 4, 3) := by decide +kernel
theorem dX4_setClaim_37 : decode cX4_setClaim 37 = .ok (.iconst 0, 1) := by decide +kernel
theorem dX4_setClaim_38 : decode cX4_setClaim 38 = .ok (.if_icmp .ne 6, 3) := by decide +kernel
theorem dX4_setClaim_41 : decode cX4_setClaim 41 = .ok (.bipush (-5), 2) := by decide +kernel
theorem dX4_setClaim_43 : decode cX4_setClaim 43 = .ok (.ireturn, 1) := by decide +kernel
theorem dX4_setClaim_44 : decode cX4_setClaim 44 = .ok (.iload_n 3, 1) := by decide +kernel
theorem dX4_setClaim_45 : decode cX4_setClaim 45 = .ok (.ifCond .eq 15, 3) := by decide +kernel
theorem dX4_setClaim_48 : decode cX4_setClaim 48 = .ok (.aload_n 0, 1) := by decide +kernel
theorem dX4_setClaim_49 : decode cX4_setClaim 49 = .ok (.getfield 30, 3) := by decide +kernel
theorem dX4_setClaim_52 : decode cX4_setClaim 52 = .ok (.iload_n 1, 1) := by decide +kernel
theorem dX4_setClaim_53 : decode cX4_setClaim 53 = .ok (.iload_n 2, 1) := by decide +kernel
theorem dX4_setClaim_54 : decode cX4_setClaim 54 = .ok (.invokevirtual 117, 3) := by decide +kernel
theorem dX4_setClaim_57 : decode cX4_setClaim 57 = .ok (.goto 13, 3) := by decide +kernel
theorem dX4_setClaim_60 : decode cX4_setClaim 60 = .ok (.aload_n 0, 1) := by decide +kernel
theorem dX4_setClaim_61 : decode cX4_setClaim 61 = .ok (.getfield 30, 3) := by decide +kernel
theorem dX4_setClaim_64 : decode cX4_setClaim 64 = .ok (.iload_n 2, 1) := by decide +kernel
theorem dX4_setClaim_65 : decode cX4_setClaim 65 = .ok (.iload 4, 2) := by decide +kernel
theorem dX4_setClaim_67 : decode cX4_setClaim 67 = .ok (.invokevirtual 120, 3) := by decide +kernel
theorem dX4_setClaim_70 : decode cX4_setClaim 70 = .ok (.aload_n 0, 1) := by decide +kernel
theorem dX4_setClaim_71 : decode cX4_setClaim 71 = .ok (.getfield 30, 3) := by decide +kernel
theorem dX4_setClaim_74 : decode cX4_setClaim 74 = .ok (.iload_n 2, 1) := by decide +kernel
theorem dX4_setClaim_75 : decode cX4_setClaim 75 = .ok (.invokevirtual 122, 3) := by decide +kernel
theorem dX4_setClaim_78 : decode cX4_setClaim 78 = .ok (.ireturn, 1) := by decide +kernel
theorem dX4_grantFirstClaim_0 : decode cX4_grantFirstClaim 0 = .ok (.aload_n 0, 1) := by decide +kernel
theorem dX4_grantFirstClaim_1 : decode cX4_grantFirstClaim 1 = .ok (.getfield 30, 3) := by decide +kernel
theorem dX4_grantFirstClaim_4 : decode cX4_grantFirstClaim 4 = .ok (.iload_n 1, 1) := by decide +kernel
theorem dX4_grantFirstClaim_5 : decode cX4_grantFirstClaim 5 = .ok (.invokevirtual 125, 3) := by decide +kernel
theorem dX4_grantFirstClaim_8 : decode cX4_grantFirstClaim 8 = .ok (.istore_n 2, 1) := by decide +kernel
theorem dX4_grantFirstClaim_9 : decode cX4_grantFirstClaim 9 = .ok (.iload_n 2, 1) := by decide +kernel
theorem dX4_grantFirstClaim_10 : decode cX4_grantFirstClaim 10 = .ok (.aload_n 0, 1) := by decide +kernel
theorem dX4_grantFirstClaim_11 : decode cX4_grantFirstClaim 11 = .ok (.getfield 18, 3) := by decide +kernel
theorem dX4_grantFirstClaim_14 : decode cX4_grantFirstClaim 14 = .ok (.iload_n 1, 1) := by decide +kernel
theorem dX4_grantFirstClaim_15 : decode cX4_grantFirstClaim 15 = .ok (.iaload, 1) := by decide +kernel
theorem dX4_grantFirstClaim_16 : decode cX4_grantFirstClaim 16 = .ok (.if_icmp .eq 24, 3) := by decide +kernel
theorem dX4_grantFirstClaim_19 : decode cX4_grantFirstClaim 19 = .ok (.aload_n 0, 1) := by decide +kernel
theorem dX4_grantFirstClaim_20 : decode cX4_grantFirstClaim 20 = .ok (.aload_n 0, 1) := by decide +kernel
theorem dX4_grantFirstClaim_21 : decode cX4_grantFirstClaim 21 = .ok (.getfield 18, 3) := by decide +kernel
theorem dX4_grantFirstClaim_24 : decode cX4_grantFirstClaim 24 = .ok (.iload_n 1, 1) := by decide +kernel
theorem dX4_grantFirstClaim_25 : decode cX4_grantFirstClaim 25 = .ok (.iaload, 1) := by decide +kernel
theorem dX4_grantFirstClaim_26 : decode cX4_grantFirstClaim 26 = .ok (.iload_n 2, 1) := by decide +kernel
theorem dX4_grantFirstClaim_27 : decode cX4_grantFirstClaim 27 = .ok (.iload_n 1, 1) := by decide +kernel
theorem dX4_grantFirstClaim_28 : decode cX4_grantFirstClaim 28 = .ok (.bipush 64, 2) := by decide +kernel
theorem dX4_grantFirstClaim_30 : decode cX4_grantFirstClaim 30 = .ok (.invokevirtual 85, 3) := by decide +kernel
theorem dX4_grantFirstClaim_33 : decode cX4_grantFirstClaim 33 = .ok (.istore_n 3, 1) := by decide +kernel
theorem dX4_grantFirstClaim_34 : decode cX4_grantFirstClaim 34 = .ok (.iload_n 3, 1) := by decide +kernel
theorem dX4_grantFirstClaim_35 : decode cX4_grantFirstClaim 35 = .ok (.ifCond .ge 5, 3) := by decide +kernel
theorem dX4_grantFirstClaim_38 : decode cX4_grantFirstClaim 38 = .ok (.iload_n 3, 1) := by decide +kernel
theorem dX4_grantFirstClaim_39 : decode cX4_grantFirstClaim 39 = .ok (.ireturn, 1) := by decide +kernel
theorem dX4_grantFirstClaim_40 : decode cX4_grantFirstClaim 40 = .ok (.aload_n 0, 1) := by decide +kernel
theorem dX4_grantFirstClaim_41 : decode cX4_grantFirstClaim 41 = .ok (.getfield 30, 3) := by decide +kernel
theorem dX4_grantFirstClaim_44 : decode cX4_grantFirstClaim 44 = .ok (.iload_n 1, 1) := by decide +kernel
theorem dX4_grantFirstClaim_45 : decode cX4_grantFirstClaim 45 = .ok (.iconst 0, 1) := by decide +kernel
theorem dX4_grantFirstClaim_46 : decode cX4_grantFirstClaim 46 = .ok (.invokevirtual 120, 3) := by decide +kernel
theorem dX4_grantFirstClaim_49 : decode cX4_grantFirstClaim 49 = .ok (.iload_n 2, 1) := by decide +kernel
theorem dX4_grantFirstClaim_50 : decode cX4_grantFirstClaim 50 = .ok (.ireturn, 1) := by decide +kernel
theorem dX4_changeOwner_0 : decode cX4_changeOwner 0 = .ok (.iload_n 1, 1) := by decide +kernel
theorem dX4_changeOwner_1 : decode cX4_changeOwner 1 = .ok (.invokestatic 62, 3) := by decide +kernel
theorem dX4_changeOwner_4 : decode cX4_changeOwner 4 = .ok (.ifCond .eq 10, 3) := by decide +kernel
theorem dX4_changeOwner_7 : decode cX4_changeOwner 7 = .ok (.iload_n 2, 1) := by decide +kernel
theorem dX4_changeOwner_8 : decode cX4_changeOwner 8 = .ok (.invokestatic 58, 3) := by decide +kernel
theorem dX4_changeOwner_11 : decode cX4_changeOwner 11 = .ok (.ifCond .ne 5, 3) := by decide +kernel
theorem dX4_changeOwner_14 : decode cX4_changeOwner 14 = .ok (.iconst (-1), 1) := by decide +kernel
theorem dX4_changeOwner_15 : decode cX4_changeOwner 15 = .ok (.ireturn, 1) := by decide +kernel
theorem dX4_changeOwner_16 : decode cX4_changeOwner 16 = .ok (.aload_n 0, 1) := by decide +kernel
theorem dX4_changeOwner_17 : decode cX4_changeOwner 17 = .ok (.getfield 18, 3) := by decide +kernel
theorem dX4_changeOwner_20 : decode cX4_changeOwner 20 = .ok (.iload_n 1, 1) := by decide +kernel
theorem dX4_changeOwner_21 : decode cX4_changeOwner 21 = .ok (.iaload, 1) := by decide +kernel
theorem dX4_changeOwner_22 : decode cX4_changeOwner 22 = .ok (.istore_n 3, 1) := by decide +kernel
theorem dX4_changeOwner_23 : decode cX4_changeOwner 23 = .ok (.aload_n 0, 1) := by decide +kernel
theorem dX4_changeOwner_24 : decode cX4_changeOwner 24 = .ok (.getfield 37, 3) := by decide +kernel
theorem dX4_changeOwner_27 : decode cX4_changeOwner 27 = .ok (.iload_n 1, 1) := by decide +kernel
theorem dX4_changeOwner_28 : decode cX4_changeOwner 28 = .ok (.invokevirtual 128, 3) := by decide +kernel
theorem dX4_changeOwner_31 : decode cX4_changeOwner 31 = .ok (.ifCond .gt 12, 3) := by decide +kernel
theorem dX4_changeOwner_34 : decode cX4_changeOwner 34 = .ok (.aload_n 0, 1) := by decide +kernel
theorem dX4_changeOwner_35 : decode cX4_changeOwner 35 = .ok (.iload_n 3, 1) := by decide +kernel
theorem dX4_changeOwner_36 : decode cX4_changeOwner 36 = .ok (.iload_n 1, 1) := by decide +kernel
theorem dX4_changeOwner_37 : decode cX4_changeOwner 37 = .ok (.invokevirtual 69, 3) := by decide +kernel
theorem dX4_changeOwner_40 : decode cX4_changeOwner 40 = .ok (.ifCond .eq 6, 3) := by decide +kernel
theorem dX4_changeOwner_43 : decode cX4_changeOwner 43 = .ok (.bipush (-4), 2) := by decide +kernel
theorem dX4_changeOwner_45 : decode cX4_changeOwner 45 = .ok (.ireturn, 1) := by decide +kernel
theorem dX4_changeOwner_46 : decode cX4_changeOwner 46 = .ok (.iload_n 2, 1) := by decide +kernel
theorem dX4_changeOwner_47 : decode cX4_changeOwner 47 = .ok (.iload_n 3, 1) := by decide +kernel
theorem dX4_changeOwner_48 : decode cX4_changeOwner 48 = .ok (.if_icmp .ne 6, 3) := by decide +kernel
theorem dX4_changeOwner_51 : decode cX4_changeOwner 51 = .ok (.bipush (-5), 2) := by decide +kernel
theorem dX4_changeOwner_53 : decode cX4_changeOwner 53 = .ok (.ireturn, 1) := by decide +kernel
theorem dX4_changeOwner_54 : decode cX4_changeOwner 54 = .ok (.aload_n 0, 1) := by decide +kernel
theorem dX4_changeOwner_55 : decode cX4_changeOwner 55 = .ok (.iload_n 3, 1) := by decide +kernel
theorem dX4_changeOwner_56 : decode cX4_changeOwner 56 = .ok (.iload_n 2, 1) := by decide +kernel
theorem dX4_changeOwner_57 : decode cX4_changeOwner 57 = .ok (.iload_n 1, 1) := by decide +kernel
theorem dX4_changeOwner_58 : decode cX4_changeOwner 58 = .ok (.bipush 64, 2) := by decide +kernel
theorem dX4_changeOwner_60 : decode cX4_changeOwner 60 = .ok (.invokevirtual 77, 3) := by decide +kernel
theorem dX4_changeOwner_63 : decode cX4_changeOwner 63 = .ok (.aload_n 0, 1) := by decide +kernel
theorem dX4_changeOwner_64 : decode cX4_changeOwner 64 = .ok (.getfield 18, 3) := by decide +kernel
theorem dX4_changeOwner_67 : decode cX4_changeOwner 67 = .ok (.iload_n 1, 1) := by decide +kernel
theorem dX4_changeOwner_68 : decode cX4_changeOwner 68 = .ok (.iload_n 2, 1) := by decide +kernel
theorem dX4_changeOwner_69 : decode cX4_changeOwner 69 = .ok (.iastore, 1) := by decide +kernel
theorem dX4_changeOwner_70 : decode cX4_changeOwner 70 = .ok (.iload_n 3, 1) := by decide +kernel
theorem dX4_changeOwner_71 : decode cX4_changeOwner 71 = .ok (.ireturn, 1) := by decide +kernel
theorem dX4_countReaders_0 : decode cX4_countReaders 0 = .ok (.iconst 0, 1) := by decide +kernel
theorem dX4_countReaders_1 : decode cX4_countReaders 1 = .ok (.istore_n 2, 1) := by decide +kernel
theorem dX4_countReaders_2 : decode cX4_countReaders 2 = .ok (.iconst 0, 1) := by decide +kernel
theorem dX4_countReaders_3 : decode cX4_countReaders 3 = .ok (.istore_n 3, 1) := by decide +kernel
theorem dX4_countReaders_4 : decode cX4_countReaders 4 = .ok (.iload_n 3, 1) := by decide +kernel
theorem dX4_countReaders_5 : decode cX4_countReaders 5 = .ok (.bipush 6, 2) := by decide +kernel
theorem dX4_countReaders_7 : decode cX4_countReaders 7 = .ok (.if_icmp .ge 21, 3) := by decide +kernel
theorem dX4_countReaders_10 : decode cX4_countReaders 10 = .ok (.aload_n 0, 1) := by decide +kernel
theorem dX4_countReaders_11 : decode cX4_countReaders 11 = .ok (.iload_n 3, 1) := by decide +kernel
theorem dX4_countReaders_12 : decode cX4_countReaders 12 = .ok (.iload_n 1, 1) := by decide +kernel
theorem dX4_countReaders_13 : decode cX4_countReaders 13 = .ok (.invokevirtual 65, 3) := by decide +kernel
theorem dX4_countReaders_16 : decode cX4_countReaders 16 = .ok (.ifCond .le 6, 3) := by decide +kernel
theorem dX4_countReaders_19 : decode cX4_countReaders 19 = .ok (.iinc 2 1, 3) := by decide +kernel
theorem dX4_countReaders_22 : decode cX4_countReaders 22 = .ok (.iinc 3 1, 3) := by decide +kernel
theorem dX4_countReaders_25 : decode cX4_countReaders 25 = .ok (.goto (-21), 3) := by decide +kernel
theorem dX4_countReaders_28 : decode cX4_countReaders 28 = .ok (.iload_n 2, 1) := by decide +kernel
theorem dX4_countReaders_29 : decode cX4_countReaders 29 = .ok (.ireturn, 1) := by decide +kernel
theorem dX4_holderOfWhole_0 : decode cX4_holderOfWhole 0 = .ok (.iconst 0, 1) := by decide +kernel
theorem dX4_holderOfWhole_1 : decode cX4_holderOfWhole 1 = .ok (.istore_n 2, 1) := by decide +kernel
theorem dX4_holderOfWhole_2 : decode cX4_holderOfWhole 2 = .ok (.iload_n 2, 1) := by decide +kernel
theorem dX4_holderOfWhole_3 : decode cX4_holderOfWhole 3 = .ok (.bipush 6, 2) := by decide +kernel
theorem dX4_holderOfWhole_5 : decode cX4_holderOfWhole 5 = .ok (.if_icmp .ge 22, 3) := by decide +kernel
theorem dX4_holderOfWhole_8 : decode cX4_holderOfWhole 8 = .ok (.aload_n 0, 1) := by decide +kernel
theorem dX4_holderOfWhole_9 : decode cX4_holderOfWhole 9 = .ok (.iload_n 2, 1) := by decide +kernel
theorem dX4_holderOfWhole_10 : decode cX4_holderOfWhole 10 = .ok (.iload_n 1, 1) := by decide +kernel
theorem dX4_holderOfWhole_11 : decode cX4_holderOfWhole 11 = .ok (.invokevirtual 65, 3) := by decide +kernel
theorem dX4_holderOfWhole_14 : decode cX4_holderOfWhole 14 = .ok (.bipush 64, 2) := by decide +kernel
theorem dX4_holderOfWhole_16 : decode cX4_holderOfWhole 16 = .ok (.if_icmp .ne 5, 3) := by decide +kernel
theorem dX4_holderOfWhole_19 : decode cX4_holderOfWhole 19 = .ok (.iload_n 2, 1) := by decide +kernel
theorem dX4_holderOfWhole_20 : decode cX4_holderOfWhole 20 = .ok (.ireturn, 1) := by decide +kernel
theorem dX4_holderOfWhole_21 : decode cX4_holderOfWhole 21 = .ok (.iinc 2 1, 3) := by decide +kernel
theorem dX4_holderOfWhole_24 : decode cX4_holderOfWhole 24 = .ok (.goto (-22), 3) := by decide +kernel
theorem dX4_holderOfWhole_27 : decode cX4_holderOfWhole 27 = .ok (.bipush (-5), 2) := by decide +kernel
theorem dX4_holderOfWhole_29 : decode cX4_holderOfWhole 29 = .ok (.ireturn, 1) := by decide +kernel
theorem dX4_countWholeCells_0 : decode cX4_countWholeCells 0 = .ok (.iconst 0, 1) := by decide +kernel
theorem dX4_countWholeCells_1 : decode cX4_countWholeCells 1 = .ok (.istore_n 1, 1) := by decide +kernel
theorem dX4_countWholeCells_2 : decode cX4_countWholeCells 2 = .ok (.iconst 0, 1) := by decide +kernel
theorem dX4_countWholeCells_3 : decode cX4_countWholeCells 3 = .ok (.istore_n 2, 1) := by decide +kernel
theorem dX4_countWholeCells_4 : decode cX4_countWholeCells 4 = .ok (.iload_n 2, 1) := by decide +kernel
theorem dX4_countWholeCells_5 : decode cX4_countWholeCells 5 = .ok (.bipush 6, 2) := by decide +kernel
theorem dX4_countWholeCells_7 : decode cX4_countWholeCells 7 = .ok (.if_icmp .ge 22, 3) := by decide +kernel
theorem dX4_countWholeCells_10 : decode cX4_countWholeCells 10 = .ok (.aload_n 0, 1) := by decide +kernel
theorem dX4_countWholeCells_11 : decode cX4_countWholeCells 11 = .ok (.iload_n 2, 1) := by decide +kernel
theorem dX4_countWholeCells_12 : decode cX4_countWholeCells 12 = .ok (.invokevirtual 131, 3) := by decide +kernel
theorem dX4_countWholeCells_15 : decode cX4_countWholeCells 15 = .ok (.bipush (-5), 2) := by decide +kernel
theorem dX4_countWholeCells_17 : decode cX4_countWholeCells 17 = .ok (.if_icmp .eq 6, 3) := by decide +kernel
theorem dX4_countWholeCells_20 : decode cX4_countWholeCells 20 = .ok (.iinc 1 1, 3) := by decide +kernel
theorem dX4_countWholeCells_23 : decode cX4_countWholeCells 23 = .ok (.iinc 2 1, 3) := by decide +kernel
theorem dX4_countWholeCells_26 : decode cX4_countWholeCells 26 = .ok (.goto (-22), 3) := by decide +kernel
theorem dX4_countWholeCells_29 : decode cX4_countWholeCells 29 = .ok (.iload_n 1, 1) := by decide +kernel
theorem dX4_countWholeCells_30 : decode cX4_countWholeCells 30 = .ok (.ireturn, 1) := by decide +kernel
theorem dX4_countHolding_0 : decode cX4_countHolding 0 = .ok (.aload_n 0, 1) := by decide +kernel
theorem dX4_countHolding_1 : decode cX4_countHolding 1 = .ok (.getfield 24, 3) := by decide +kernel
theorem dX4_countHolding_4 : decode cX4_countHolding 4 = .ok (.iload_n 1, 1) := by decide +kernel
theorem dX4_countHolding_5 : decode cX4_countHolding 5 = .ok (.iaload, 1) := by decide +kernel
theorem dX4_countHolding_6 : decode cX4_countHolding 6 = .ok (.invokestatic 134, 3) := by decide +kernel
theorem dX4_countHolding_9 : decode cX4_countHolding 9 = .ok (.ireturn, 1) := by decide +kernel
theorem dX4_countAllHolding_0 : decode cX4_countAllHolding 0 = .ok (.iconst 0, 1) := by decide +kernel
theorem dX4_countAllHolding_1 : decode cX4_countAllHolding 1 = .ok (.istore_n 1, 1) := by decide +kernel
theorem dX4_countAllHolding_2 : decode cX4_countAllHolding 2 = .ok (.iconst 0, 1) := by decide +kernel
theorem dX4_countAllHolding_3 : decode cX4_countAllHolding 3 = .ok (.istore_n 2, 1) := by decide +kernel
theorem dX4_countAllHolding_4 : decode cX4_countAllHolding 4 = .ok (.iload_n 2, 1) := by decide +kernel
theorem dX4_countAllHolding_5 : decode cX4_countAllHolding 5 = .ok (.bipush 6, 2) := by decide +kernel
theorem dX4_countAllHolding_7 : decode cX4_countAllHolding 7 = .ok (.if_icmp .ge 17, 3) := by decide +kernel
theorem dX4_countAllHolding_10 : decode cX4_countAllHolding 10 = .ok (.iload_n 1, 1) := by decide +kernel
theorem dX4_countAllHolding_11 : decode cX4_countAllHolding 11 = .ok (.aload_n 0, 1) := by decide +kernel
theorem dX4_countAllHolding_12 : decode cX4_countAllHolding 12 = .ok (.iload_n 2, 1) := by decide +kernel
theorem dX4_countAllHolding_13 : decode cX4_countAllHolding 13 = .ok (.invokevirtual 139, 3) := by decide +kernel
theorem dX4_countAllHolding_16 : decode cX4_countAllHolding 16 = .ok (.iadd, 1) := by decide +kernel
theorem dX4_countAllHolding_17 : decode cX4_countAllHolding 17 = .ok (.istore_n 1, 1) := by decide +kernel
theorem dX4_countAllHolding_18 : decode cX4_countAllHolding 18 = .ok (.iinc 2 1, 3) := by decide +kernel
theorem dX4_countAllHolding_21 : decode cX4_countAllHolding 21 = .ok (.goto (-17), 3) := by decide +kernel
theorem dX4_countAllHolding_24 : decode cX4_countAllHolding 24 = .ok (.iload_n 1, 1) := by decide +kernel
theorem dX4_countAllHolding_25 : decode cX4_countAllHolding 25 = .ok (.ireturn, 1) := by decide +kernel
theorem dX5_init_0 : decode cX5_init 0 = .ok (.aload_n 0, 1) := by decide +kernel
theorem dX5_init_1 : decode cX5_init 1 = .ok (.invokespecial 3, 3) := by decide +kernel
theorem dX5_init_4 : decode cX5_init 4 = .ok (.aload_n 0, 1) := by decide +kernel
theorem dX5_init_5 : decode cX5_init 5 = .ok (.bipush 60, 2) := by decide +kernel
theorem dX5_init_7 : decode cX5_init 7 = .ok (.newarray .int, 2) := by decide +kernel
theorem dX5_init_9 : decode cX5_init 9 = .ok (.putfield 9, 3) := by decide +kernel
theorem dX5_init_12 : decode cX5_init 12 = .ok (.aload_n 0, 1) := by decide +kernel
theorem dX5_init_13 : decode cX5_init 13 = .ok (.sipush 150, 3) := by decide +kernel
theorem dX5_init_16 : decode cX5_init 16 = .ok (.newarray .int, 2) := by decide +kernel
theorem dX5_init_18 : decode cX5_init 18 = .ok (.putfield 15, 3) := by decide +kernel
theorem dX5_init_21 : decode cX5_init 21 = .ok (.return_, 1) := by decide +kernel
theorem dX5_size_0 : decode cX5_size 0 = .ok (.aload_n 0, 1) := by decide +kernel
theorem dX5_size_1 : decode cX5_size 1 = .ok (.getfield 18, 3) := by decide +kernel
theorem dX5_size_4 : decode cX5_size 4 = .ok (.ireturn, 1) := by decide +kernel
theorem dX5_append_0 : decode cX5_append 0 = .ok (.aload_n 0, 1) := by decide +kernel
theorem dX5_append_1 : decode cX5_append 1 = .ok (.getfield 18, 3) := by decide +kernel
theorem dX5_append_4 : decode cX5_append 4 = .ok (.bipush 60, 2) := by decide +kernel
theorem dX5_append_6 : decode cX5_append 6 = .ok (.if_icmp .lt 6, 3) := by decide +kernel
theorem dX5_append_9 : decode cX5_append 9 = .ok (.bipush (-3), 2) := by decide +kernel
theorem dX5_append_11 : decode cX5_append 11 = .ok (.ireturn, 1) := by decide +kernel
theorem dX5_append_12 : decode cX5_append 12 = .ok (.aload_n 0, 1) := by decide +kernel
theorem dX5_append_13 : decode cX5_append 13 = .ok (.getfield 9, 3) := by decide +kernel
theorem dX5_append_16 : decode cX5_append 16 = .ok (.aload_n 0, 1) := by decide +kernel
theorem dX5_append_17 : decode cX5_append 17 = .ok (.getfield 18, 3) := by decide +kernel
theorem dX5_append_20 : decode cX5_append 20 = .ok (.iload_n 1, 1) := by decide +kernel
theorem dX5_append_21 : decode cX5_append 21 = .ok (.iastore, 1) := by decide +kernel
theorem dX5_append_22 : decode cX5_append 22 = .ok (.aload_n 0, 1) := by decide +kernel
theorem dX5_append_23 : decode cX5_append 23 = .ok (.dup, 1) := by decide +kernel
theorem dX5_append_24 : decode cX5_append 24 = .ok (.getfield 18, 3) := by decide +kernel
theorem dX5_append_27 : decode cX5_append 27 = .ok (.iconst 1, 1) := by decide +kernel
theorem dX5_append_28 : decode cX5_append 28 = .ok (.iadd, 1) := by decide +kernel
theorem dX5_append_29 : decode cX5_append 29 = .ok (.putfield 18, 3) := by decide +kernel
theorem dX5_append_32 : decode cX5_append 32 = .ok (.aload_n 0, 1) := by decide +kernel
theorem dX5_append_33 : decode cX5_append 33 = .ok (.getfield 18, 3) := by decide +kernel
theorem dX5_append_36 : decode cX5_append 36 = .ok (.ireturn, 1) := by decide +kernel
theorem dX5_empty_0 : decode cX5_empty 0 = .ok (.aload_n 0, 1) := by decide +kernel
theorem dX5_empty_1 : decode cX5_empty 1 = .ok (.getfield 18, 3) := by decide +kernel
theorem dX5_empty_4 : decode cX5_empty 4 = .ok (.istore_n 1, 1) := by decide +kernel
theorem dX5_empty_5 : decode cX5_empty 5 = .ok (.aload_n 0, 1) := by decide +kernel
theorem dX5_empty_6 : decode cX5_empty 6 = .ok (.iconst 0, 1) := by decide +kernel
theorem dX5_empty_7 : decode cX5_empty 7 = .ok (.putfield 18, 3) := by decide +kernel
theorem dX5_empty_10 : decode cX5_empty 10 = .ok (.iload_n 1, 1) := by decide +kernel
theorem dX5_empty_11 : decode cX5_empty 11 = .ok (.ireturn, 1) := by decide +kernel
theorem dX5_findFault_0 : decode cX5_findFault 0 = .ok (.aload_n 0, 1) := by decide +kernel
theorem dX5_findFault_1 : decode cX5_findFault 1 = .ok (.iconst 0, 1) := by decide +kernel
theorem dX5_findFault_2 : decode cX5_findFault 2 = .ok (.putfield 22, 3) := by decide +kernel
theorem dX5_findFault_5 : decode cX5_findFault 5 = .ok (.aload_n 0, 1) := by decide +kernel
theorem dX5_findFault_6 : decode cX5_findFault 6 = .ok (.iconst 0, 1) := by decide +kernel
theorem dX5_findFault_7 : decode cX5_findFault 7 = .ok (.putfield 25, 3) := by decide +kernel
theorem dX5_findFault_10 : decode cX5_findFault 10 = .ok (.aload_n 0, 1) := by decide +kernel
theorem dX5_findFault_11 : decode cX5_findFault 11 = .ok (.invokevirtual 28, 3) := by decide +kernel
theorem dX5_findFault_14 : decode cX5_findFault 14 = .ok (.istore_n 1, 1) := by decide +kernel
theorem dX5_findFault_15 : decode cX5_findFault 15 = .ok (.iconst 1, 1) := by decide +kernel
theorem dX5_findFault_16 : decode cX5_findFault 16 = .ok (.istore_n 2, 1) := by decide +kernel
theorem dX5_findFault_17 : decode cX5_findFault 17 = .ok (.iload_n 2, 1) := by decide +kernel
theorem dX5_findFault_18 : decode cX5_findFault 18 = .ok (.bipush 30, 2) := by decide +kernel
theorem dX5_findFault_20 : decode cX5_findFault 20 = .ok (.if_icmp .ge 46, 3) := by decide +kernel
theorem dX5_findFault_23 : decode cX5_findFault 23 = .ok (.iload_n 1, 1) := by decide +kernel
theorem dX5_findFault_24 : decode cX5_findFault 24 = .ok (.ifCond .eq 42, 3) := by decide +kernel
theorem dX5_findFault_27 : decode cX5_findFault 27 = .ok (.aload_n 0, 1) := by decide +kernel
theorem dX5_findFault_28 : decode cX5_findFault 28 = .ok (.getfield 22, 3) := by decide +kernel
theorem dX5_findFault_31 : decode cX5_findFault 31 = .ok (.aload_n 0, 1) := by decide +kernel
theorem dX5_findFault_32 : decode cX5_findFault 32 = .ok (.getfield 18, 3) := by decide +kernel
theorem dX5_findFault_35 : decode cX5_findFault 35 = .ok (.if_icmp .ge 31, 3) := by decide +kernel
theorem dX5_findFault_38 : decode cX5_findFault 38 = .ok (.aload_n 0, 1) := by decide +kernel
theorem dX5_findFault_39 : decode cX5_findFault 39 = .ok (.bipush 44, 2) := by decide +kernel
theorem dX5_findFault_41 : decode cX5_findFault 41 = .ok (.invokevirtual 32, 3) := by decide +kernel
theorem dX5_findFault_44 : decode cX5_findFault 44 = .ok (.ifCond .eq 14, 3) := by decide +kernel
theorem dX5_findFault_47 : decode cX5_findFault 47 = .ok (.aload_n 0, 1) := by decide +kernel
theorem dX5_findFault_48 : decode cX5_findFault 48 = .ok (.invokevirtual 28, 3) := by decide +kernel
theorem dX5_findFault_51 : decode cX5_findFault 51 = .ok (.ifCond .eq 7, 3) := by decide +kernel
theorem dX5_findFault_54 : decode cX5_findFault 54 = .ok (.iconst 1, 1) := by decide +kernel
theorem dX5_findFault_55 : decode cX5_findFault 55 = .ok (.goto 4, 3) := by decide +kernel
theorem dX5_findFault_58 : decode cX5_findFault 58 = .ok (.iconst 0, 1) := by decide +kernel
theorem dX5_findFault_59 : decode cX5_findFault 59 = .ok (.istore_n 1, 1) := by decide +kernel
theorem dX5_findFault_60 : decode cX5_findFault 60 = .ok (.iinc 2 1, 3) := by decide +kernel
theorem dX5_findFault_63 : decode cX5_findFault 63 = .ok (.goto (-46), 3) := by decide +kernel
theorem dX5_findFault_66 : decode cX5_findFault 66 = .ok (.iload_n 1, 1) := by decide +kernel
theorem dX5_findFault_67 : decode cX5_findFault 67 = .ok (.ifCond .eq 7, 3) := by decide +kernel
theorem dX5_findFault_70 : decode cX5_findFault 70 = .ok (.iconst (-1), 1) := by decide +kernel
theorem dX5_findFault_71 : decode cX5_findFault 71 = .ok (.goto 7, 3) := by decide +kernel
theorem dX5_findFault_74 : decode cX5_findFault 74 = .ok (.aload_n 0, 1) := by decide +kernel
theorem dX5_findFault_75 : decode cX5_findFault 75 = .ok (.getfield 22, 3) := by decide +kernel
theorem dX5_findFault_78 : decode cX5_findFault 78 = .ok (.ireturn, 1) := by decide +kernel
theorem dX5_readAct_0 : decode cX5_readAct 0 = .ok (.aload_n 0, 1) := by decide +kernel
theorem dX5_readAct_1 : decode cX5_readAct 1 = .ok (.getfield 25, 3) := by decide +kernel
theorem dX5_readAct_4 : decode cX5_readAct 4 = .ok (.iconst 5, 1) := by decide +kernel
theorem dX5_readAct_5 : decode cX5_readAct 5 = .ok (.imul, 1) := by decide +kernel
theorem dX5_readAct_6 : decode cX5_readAct 6 = .ok (.istore_n 1, 1) := by decide +kernel
theorem dX5_readAct_7 : decode cX5_readAct 7 = .ok (.iload_n 1, 1) := by decide +kernel
theorem dX5_readAct_8 : decode cX5_readAct 8 = .ok (.aload_n 0, 1) := by decide +kernel
theorem dX5_readAct_9 : decode cX5_readAct 9 = .ok (.getfield 15, 3) := by decide +kernel
theorem dX5_readAct_12 : decode cX5_readAct 12 = .ok (.arraylength, 1) := by decide +kernel
theorem dX5_readAct_13 : decode cX5_readAct 13 = .ok (.if_icmp .ge 11, 3) := by decide +kernel
theorem dX5_readAct_16 : decode cX5_readAct 16 = .ok (.aload_n 0, 1) := by decide +kernel
theorem dX5_readAct_17 : decode cX5_readAct 17 = .ok (.iload_n 1, 1) := by decide +kernel
theorem dX5_readAct_18 : decode cX5_readAct 18 = .ok (.invokevirtual 36, 3) := by decide +kernel
theorem dX5_readAct_21 : decode cX5_readAct 21 = .ok (.ifCond .ne 5, 3) := by decide +kernel
theorem dX5_readAct_24 : decode cX5_readAct 24 = .ok (.iconst 0, 1) := by decide +kernel
theorem dX5_readAct_25 : decode cX5_readAct 25 = .ok (.ireturn, 1) := by decide +kernel
theorem dX5_readAct_26 : decode cX5_readAct 26 = .ok (.aload_n 0, 1) := by decide +kernel
theorem dX5_readAct_27 : decode cX5_readAct 27 = .ok (.dup, 1) := by decide +kernel
theorem dX5_readAct_28 : decode cX5_readAct 28 = .ok (.getfield 25, 3) := by decide +kernel
theorem dX5_readAct_31 : decode cX5_readAct 31 = .ok (.iconst 1, 1) := by decide +kernel
theorem dX5_readAct_32 : decode cX5_readAct 32 = .ok (.iadd, 1) := by decide +kernel
theorem dX5_readAct_33 : decode cX5_readAct 33 = .ok (.putfield 25, 3) := by decide +kernel
theorem dX5_readAct_36 : decode cX5_readAct 36 = .ok (.iconst 1, 1) := by decide +kernel
theorem dX5_readAct_37 : decode cX5_readAct 37 = .ok (.ireturn, 1) := by decide +kernel
theorem dX5_readForm_0 : decode cX5_readForm 0 = .ok (.aload_n 0, 1) := by decide +kernel
theorem dX5_readForm_1 : decode cX5_readForm 1 = .ok (.getfield 15, 3) := by decide +kernel
theorem dX5_readForm_4 : decode cX5_readForm 4 = .ok (.iload_n 1, 1) := by decide +kernel
theorem dX5_readForm_5 : decode cX5_readForm 5 = .ok (.aload_n 0, 1) := by decide +kernel
theorem dX5_readForm_6 : decode cX5_readForm 6 = .ok (.invokevirtual 39, 3) := by decide +kernel
theorem dX5_readForm_9 : decode cX5_readForm 9 = .ok (.iastore, 1) := by decide +kernel
theorem dX5_readForm_10 : decode cX5_readForm 10 = .ok (.aload_n 0, 1) := by decide +kernel
theorem dX5_readForm_11 : decode cX5_readForm 11 = .ok (.getfield 15, 3) := by decide +kernel
theorem dX5_readForm_14 : decode cX5_readForm 14 = .ok (.iload_n 1, 1) := by decide +kernel
theorem dX5_readForm_15 : decode cX5_readForm 15 = .ok (.iaload, 1) := by decide +kernel
theorem dX5_readForm_16 : decode cX5_readForm 16 = .ok (.lookupswitch 68 #[(98, 50), (103, 62), (108, 44), (119, 56)], 44) := by decide +kernel
theorem dX5_readForm_60 : decode cX5_readForm 60 = .ok (.aload_n 0, 1) := by decide +kernel
theorem dX5_readForm_61 : decode cX5_readForm 61 = .ok (.iload_n 1, 1) := by decide +kernel
theorem dX5_readForm_62 : decode cX5_readForm 62 = .ok (.invokevirtual 43, 3) := by decide +kernel
theorem dX5_readForm_65 : decode cX5_readForm 65 = .ok (.ireturn, 1) := by decide +kernel
theorem dX5_readForm_66 : decode cX5_readForm 66 = .ok (.aload_n 0, 1) := by decide +kernel
theorem dX5_readForm_67 : decode cX5_readForm 67 = .ok (.iload_n 1, 1) := by decide +kernel
theorem dX5_readForm_68 : decode cX5_readForm 68 = .ok (.invokevirtual 46, 3) := by decide +kernel
theorem dX5_readForm_71 : decode cX5_readForm 71 = .ok (.ireturn, 1) := by decide +kernel
theorem dX5_readForm_72 : decode cX5_readForm 72 = .ok (.aload_n 0, 1) := by decide +kernel
theorem dX5_readForm_73 : decode cX5_readForm 73 = .ok (.iload_n 1, 1) := by decide +kernel
theorem dX5_readForm_74 : decode cX5_readForm 74 = .ok (.invokevirtual 49, 3) := by decide +kernel
theorem dX5_readForm_77 : decode cX5_readForm 77 = .ok (.ireturn, 1) := by decide +kernel
theorem dX5_readForm_78 : decode cX5_readForm 78 = .ok (.aload_n 0, 1) := by decide +kernel
theorem dX5_readForm_79 : decode cX5_readForm 79 = .ok (.iload_n 1, 1) := by decide +kernel
theorem dX5_readForm_80 : decode cX5_readForm 80 = .ok (.invokevirtual 52, 3) := by decide +kernel
theorem dX5_readForm_83 : decode cX5_readForm 83 = .ok (.ireturn, 1) := by decide +kernel
theorem dX5_readForm_84 : decode cX5_readForm 84 = .ok (.iconst 0, 1) := by decide +kernel
theorem dX5_readForm_85 : decode cX5_readForm 85 = .ok (.ireturn, 1) := by decide +kernel
theorem dX5_readLoan_0 : decode cX5_readLoan 0 = .ok (.aload_n 0, 1) := by decide +kernel
theorem dX5_readLoan_1 : decode cX5_readLoan 1 = .ok (.bipush 108, 2) := by decide +kernel
theorem dX5_readLoan_3 : decode cX5_readLoan 3 = .ok (.invokevirtual 32, 3) := by decide +kernel
theorem dX5_readLoan_6 : decode cX5_readLoan 6 = .ok (.ifCond .eq 60, 3) := by decide +kernel
theorem dX5_readLoan_9 : decode cX5_readLoan 9 = .ok (.aload_n 0, 1) := by decide +kernel
theorem dX5_readLoan_10 : decode cX5_readLoan 10 = .ok (.iload_n 1, 1) := by decide +kernel
theorem dX5_readLoan_11 : decode cX5_readLoan 11 = .ok (.iconst 1, 1) := by decide +kernel
theorem dX5_readLoan_12 : decode cX5_readLoan 12 = .ok (.iadd, 1) := by decide +kernel
theorem dX5_readLoan_13 : decode cX5_readLoan 13 = .ok (.bipush 6, 2) := by decide +kernel
theorem dX5_readLoan_15 : decode cX5_readLoan 15 = .ok (.invokevirtual 55, 3) := by decide +kernel
theorem dX5_readLoan_18 : decode cX5_readLoan 18 = .ok (.ifCond .eq 48, 3) := by decide +kernel
theorem dX5_readLoan_21 : decode cX5_readLoan 21 = .ok (.aload_n 0, 1) := by decide +kernel
theorem dX5_readLoan_22 : decode cX5_readLoan 22 = .ok (.bipush 62, 2) := by decide +kernel
theorem dX5_readLoan_24 : decode cX5_readLoan 24 = .ok (.invokevirtual 32, 3) := by decide +kernel
theorem dX5_readLoan_27 : decode cX5_readLoan 27 = .ok (.ifCond .eq 39, 3) := by decide +kernel
theorem dX5_readLoan_30 : decode cX5_readLoan 30 = .ok (.aload_n 0, 1) := by decide +kernel
theorem dX5_readLoan_31 : decode cX5_readLoan 31 = .ok (.iload_n 1, 1) := by decide +kernel
theorem dX5_readLoan_32 : decode cX5_readLoan 32 = .ok (.iconst 2, 1) := by decide +kernel
theorem dX5_readLoan_33 : decode cX5_readLoan 33 = .ok (.iadd, 1) := by decide +kernel
theorem dX5_readLoan_34 : decode cX5_readLoan 34 = .ok (.invokevirtual 59, 3) := by decide +kernel
theorem dX5_readLoan_37 : decode cX5_readLoan 37 = .ok (.ifCond .eq 29, 3) := by decide +kernel
theorem dX5_readLoan_40 : decode cX5_readLoan 40 = .ok (.aload_n 0, 1) := by decide +kernel
theorem dX5_readLoan_41 : decode cX5_readLoan 41 = .ok (.bipush 47, 2) := by decide +kernel
theorem dX5_readLoan_43 : decode cX5_readLoan 43 = .ok (.invokevirtual 32, 3) := by decide +kernel
theorem dX5_readLoan_46 : decode cX5_readLoan 46 = .ok (.ifCond .eq 20, 3) := by decide +kernel
theorem dX5_readLoan_49 : decode cX5_readLoan 49 = .ok (.aload_n 0, 1) := by decide +kernel
theorem dX5_readLoan_50 : decode cX5_readLoan 50 = .ok (.iload_n 1, 1) := by decide +kernel
theorem dX5_readLoan_51 : decode cX5_readLoan 51 = .ok (.iconst 4, 1) := by decide +kernel
theorem dX5_readLoan_52 : decode cX5_readLoan 52 = .ok (.iadd, 1) := by decide +kernel
theorem dX5_readLoan_53 : decode cX5_readLoan 53 = .ok (.iconst 1, 1) := by decide +kernel
theorem dX5_readLoan_54 : decode cX5_readLoan 54 = .ok (.bipush 64, 2) := by decide +kernel
theorem dX5_readLoan_56 : decode cX5_readLoan 56 = .ok (.invokevirtual 62, 3) := by decide +kernel
theorem dX5_readLoan_59 : decode cX5_readLoan 59 = .ok (.ifCond .eq 7, 3) := by decide +kernel
theorem dX5_readLoan_62 : decode cX5_readLoan 62 = .ok (.iconst 1, 1) := by decide +kernel
theorem dX5_readLoan_63 : decode cX5_readLoan 63 = .ok (.goto 4, 3) := by decide +kernel
theorem dX5_readLoan_66 : decode cX5_readLoan 66 = .ok (.iconst 0, 1) := by decide +kernel
theorem dX5_readLoan_67 : decode cX5_readLoan 67 = .ok (.ireturn, 1) := by decide +kernel
theorem dX5_readReturn_0 : decode cX5_readReturn 0 = .ok (.aload_n 0, 1) := by decide +kernel
theorem dX5_readReturn_1 : decode cX5_readReturn 1 = .ok (.bipush 98, 2) := by decide +kernel
theorem dX5_readReturn_3 : decode cX5_readReturn 3 = .ok (.invokevirtual 32, 3) := by decide +kernel
theorem dX5_readReturn_6 : decode cX5_readReturn 6 = .ok (.ifCond .eq 21, 3) := by decide +kernel
theorem dX5_readReturn_9 : decode cX5_readReturn 9 = .ok (.aload_n 0, 1) := by decide +kernel
theorem dX5_readReturn_10 : decode cX5_readReturn 10 = .ok (.iload_n 1, 1) := by decide +kernel
theorem dX5_readReturn_11 : decode cX5_readReturn 11 = .ok (.iconst 1, 1) := by decide +kernel
theorem dX5_readReturn_12 : decode cX5_readReturn 12 = .ok (.iadd, 1) := by decide +kernel
theorem dX5_readReturn_13 : decode cX5_readReturn 13 = .ok (.iconst 0, 1) := by decide +kernel
theorem dX5_readReturn_14 : decode cX5_readReturn 14 = .ok (.sipush 999, 3) := by decide +kernel
theorem dX5_readReturn_17 : decode cX5_readReturn 17 = .ok (.invokevirtual 62, 3) := by decide +kernel
theorem dX5_readReturn_20 : decode cX5_readReturn 20 = .ok (.ifCond .eq 7, 3) := by decide +kernel
theorem dX5_readReturn_23 : decode cX5_readReturn 23 = .ok (.iconst 1, 1) := by decide +kernel
theorem dX5_readReturn_24 : decode cX5_readReturn 24 = .ok (.goto 4, 3) := by decide +kernel
theorem dX5_readReturn_27 : decode cX5_readReturn 27 = .ok (.iconst 0, 1) := by decide +kernel
theorem dX5_readReturn_28 : decode cX5_readReturn 28 = .ok (.ireturn, 1) := by decide +kernel
theorem dX5_readWrite_0 : decode cX5_readWrite 0 = .ok (.aload_n 0, 1) := by decide +kernel
theorem dX5_readWrite_1 : decode cX5_readWrite 1 = .ok (.bipush 119, 2) := by decide +kernel
theorem dX5_readWrite_3 : decode cX5_readWrite 3 = .ok (.invokevirtual 32, 3) := by decide +kernel
theorem dX5_readWrite_6 : decode cX5_readWrite 6 = .ok (.ifCond .eq 40, 3) := by decide +kernel
theorem dX5_readWrite_9 : decode cX5_readWrite 9 = .ok (.aload_n 0, 1) := by decide +kernel
theorem dX5_readWrite_10 : decode cX5_readWrite 10 = .ok (.iload_n 1, 1) := by decide +kernel
theorem dX5_readWrite_11 : decode cX5_readWrite 11 = .ok (.iconst 1, 1) := by decide +kernel
theorem dX5_readWrite_12 : decode cX5_readWrite 12 = .ok (.iadd, 1) := by decide +kernel
theorem dX5_readWrite_13 : decode cX5_readWrite 13 = .ok (.invokevirtual 59, 3) := by decide +kernel
theorem dX5_readWrite_16 : decode cX5_readWrite 16 = .ok (.ifCond .eq 30, 3) := by decide +kernel
theorem dX5_readWrite_19 : decode cX5_readWrite 19 = .ok (.aload_n 0, 1) := by decide +kernel
theorem dX5_readWrite_20 : decode cX5_readWrite 20 = .ok (.bipush 61, 2) := by decide +kernel
theorem dX5_readWrite_22 : decode cX5_readWrite 22 = .ok (.invokevirtual 32, 3) := by decide +kernel
theorem dX5_readWrite_25 : decode cX5_readWrite 25 = .ok (.ifCond .eq 21, 3) := by decide +kernel
theorem dX5_readWrite_28 : decode cX5_readWrite 28 = .ok (.aload_n 0, 1) := by decide +kernel
theorem dX5_readWrite_29 : decode cX5_readWrite 29 = .ok (.iload_n 1, 1) := by decide +kernel
theorem dX5_readWrite_30 : decode cX5_readWrite 30 = .ok (.iconst 3, 1) := by decide +kernel
theorem dX5_readWrite_31 : decode cX5_readWrite 31 = .ok (.iadd, 1) := by decide +kernel
theorem dX5_readWrite_32 : decode cX5_readWrite 32 = .ok (.iconst 0, 1) := by decide +kernel
theorem dX5_readWrite_33 : decode cX5_readWrite 33 = .ok (.sipush 999, 3) := by decide +kernel
theorem dX5_readWrite_36 : decode cX5_readWrite 36 = .ok (.invokevirtual 62, 3) := by decide +kernel
theorem dX5_readWrite_39 : decode cX5_readWrite 39 = .ok (.ifCond .eq 7, 3) := by decide +kernel
theorem dX5_readWrite_42 : decode cX5_readWrite 42 = .ok (.iconst 1, 1) := by decide +kernel
theorem dX5_readWrite_43 : decode cX5_readWrite 43 = .ok (.goto 4, 3) := by decide +kernel
theorem dX5_readWrite_46 : decode cX5_readWrite 46 = .ok (.iconst 0, 1) := by decide +kernel
theorem dX5_readWrite_47 : decode cX5_readWrite 47 = .ok (.ireturn, 1) := by decide +kernel
theorem dX5_readGathering_0 : decode cX5_readGathering 0 = .ok (.aload_n 0, 1) := by decide +kernel
theorem dX5_readGathering_1 : decode cX5_readGathering 1 = .ok (.bipush 103, 2) := by decide +kernel
theorem dX5_readGathering_3 : decode cX5_readGathering 3 = .ok (.invokevirtual 32, 3) := by decide +kernel
theorem dX5_readGathering_6 : decode cX5_readGathering 6 = .ok (.ifCond .eq 17, 3) := by decide +kernel
theorem dX5_readGathering_9 : decode cX5_readGathering 9 = .ok (.aload_n 0, 1) := by decide +kernel
theorem dX5_readGathering_10 : decode cX5_readGathering 10 = .ok (.iload_n 1, 1) := by decide +kernel
theorem dX5_readGathering_11 : decode cX5_readGathering 11 = .ok (.iconst 1, 1) := by decide +kernel
theorem dX5_readGathering_12 : decode cX5_readGathering 12 = .ok (.iadd, 1) := by decide +kernel
theorem dX5_readGathering_13 : decode cX5_readGathering 13 = .ok (.invokevirtual 59, 3) := by decide +kernel
theorem dX5_readGathering_16 : decode cX5_readGathering 16 = .ok (.ifCond .eq 7, 3) := by decide +kernel
theorem dX5_readGathering_19 : decode cX5_readGathering 19 = .ok (.iconst 1, 1) := by decide +kernel
theorem dX5_readGathering_20 : decode cX5_readGathering 20 = .ok (.goto 4, 3) := by decide +kernel
theorem dX5_readGathering_23 : decode cX5_readGathering 23 = .ok (.iconst 0, 1) := by decide +kernel
theorem dX5_readGathering_24 : decode cX5_readGathering 24 = .ok (.ireturn, 1) := by decide +kernel
theorem dX5_readPair_0 : decode cX5_readPair 0 = .ok (.aload_n 0, 1) := by decide +kernel
theorem dX5_readPair_1 : decode cX5_readPair 1 = .ok (.iload_n 1, 1) := by decide +kernel
theorem dX5_readPair_2 : decode cX5_readPair 2 = .ok (.bipush 6, 2) := by decide +kernel
theorem dX5_readPair_4 : decode cX5_readPair 4 = .ok (.invokevirtual 55, 3) := by decide +kernel
theorem dX5_readPair_7 : decode cX5_readPair 7 = .ok (.ifCond .eq 28, 3) := by decide +kernel
theorem dX5_readPair_10 : decode cX5_readPair 10 = .ok (.aload_n 0, 1) := by decide +kernel
theorem dX5_readPair_11 : decode cX5_readPair 11 = .ok (.bipush 58, 2) := by decide +kernel
theorem dX5_readPair_13 : decode cX5_readPair 13 = .ok (.invokevirtual 32, 3) := by decide +kernel
theorem dX5_readPair_16 : decode cX5_readPair 16 = .ok (.ifCond .eq 19, 3) := by decide +kernel
theorem dX5_readPair_19 : decode cX5_readPair 19 = .ok (.aload_n 0, 1) := by decide +kernel
theorem dX5_readPair_20 : decode cX5_readPair 20 = .ok (.iload_n 1, 1) := by decide +kernel
theorem dX5_readPair_21 : decode cX5_readPair 21 = .ok (.iconst 1, 1) := by decide +kernel
theorem dX5_readPair_22 : decode cX5_readPair 22 = .ok (.iadd, 1) := by decide +kernel
theorem dX5_readPair_23 : decode cX5_readPair 23 = .ok (.bipush 6, 2) := by decide +kernel
theorem dX5_readPair_25 : decode cX5_readPair 25 = .ok (.invokevirtual 55, 3) := by decide +kernel
theorem dX5_readPair_28 : decode cX5_readPair 28 = .ok (.ifCond .eq 7, 3) := by decide +kernel
theorem dX5_readPair_31 : decode cX5_readPair 31 = .ok (.iconst 1, 1) := by decide +kernel
theorem dX5_readPair_32 : decode cX5_readPair 32 = .ok (.goto 4, 3) := by decide +kernel
theorem dX5_readPair_35 : decode cX5_readPair 35 = .ok (.iconst 0, 1) := by decide +kernel
theorem dX5_readPair_36 : decode cX5_readPair 36 = .ok (.ireturn, 1) := by decide +kernel
theorem dX5_signHere_0 : decode cX5_signHere 0 = .ok (.aload_n 0, 1) := by decide +kernel
theorem dX5_signHere_1 : decode cX5_signHere 1 = .ok (.getfield 22, 3) := by decide +kernel
theorem dX5_signHere_4 : decode cX5_signHere 4 = .ok (.aload_n 0, 1) := by decide +kernel
theorem dX5_signHere_5 : decode cX5_signHere 5 = .ok (.getfield 18, 3) := by decide +kernel
theorem dX5_signHere_8 : decode cX5_signHere 8 = .ok (.if_icmp .ge 15, 3) := by decide +kernel
theorem dX5_signHere_11 : decode cX5_signHere 11 = .ok (.aload_n 0, 1) := by decide +kernel
theorem dX5_signHere_12 : decode cX5_signHere 12 = .ok (.getfield 9, 3) := by decide +kernel
theorem dX5_signHere_15 : decode cX5_signHere 15 = .ok (.aload_n 0, 1) := by decide +kernel
theorem dX5_signHere_16 : decode cX5_signHere 16 = .ok (.getfield 22, 3) := by decide +kernel
theorem dX5_signHere_19 : decode cX5_signHere 19 = .ok (.iaload, 1) := by decide +kernel
theorem dX5_signHere_20 : decode cX5_signHere 20 = .ok (.goto 4, 3) := by decide +kernel
theorem dX5_signHere_23 : decode cX5_signHere 23 = .ok (.iconst (-1), 1) := by decide +kernel
theorem dX5_signHere_24 : decode cX5_signHere 24 = .ok (.ireturn, 1) := by decide +kernel
theorem dX5_digitHere_0 : decode cX5_digitHere 0 = .ok (.aload_n 0, 1) := by decide +kernel
theorem dX5_digitHere_1 : decode cX5_digitHere 1 = .ok (.invokevirtual 39, 3) := by decide +kernel
theorem dX5_digitHere_4 : decode cX5_digitHere 4 = .ok (.istore_n 1, 1) := by decide +kernel
theorem dX5_digitHere_5 : decode cX5_digitHere 5 = .ok (.iload_n 1, 1) := by decide +kernel
theorem dX5_digitHere_6 : decode cX5_digitHere 6 = .ok (.bipush 48, 2) := by decide +kernel
theorem dX5_digitHere_8 : decode cX5_digitHere 8 = .ok (.if_icmp .lt 16, 3) := by decide +kernel
theorem dX5_digitHere_11 : decode cX5_digitHere 11 = .ok (.iload_n 1, 1) := by decide +kernel
theorem dX5_digitHere_12 : decode cX5_digitHere 12 = .ok (.bipush 57, 2) := by decide +kernel
theorem dX5_digitHere_14 : decode cX5_digitHere 14 = .ok (.if_icmp .gt 10, 3) := by decide +kernel
theorem dX5_digitHere_17 : decode cX5_digitHere 17 = .ok (.iload_n 1, 1) := by decide +kernel
theorem dX5_digitHere_18 : decode cX5_digitHere 18 = .ok (.bipush 48, 2) := by decide +kernel
theorem dX5_digitHere_20 : decode cX5_digitHere 20 = .ok (.isub, 1) := by decide +kernel
theorem dX5_digitHere_21 : decode cX5_digitHere 21 = .ok (.goto 4, 3) := by decide +kernel
theorem dX5_digitHere_24 : decode cX5_digitHere 24 = .ok (.iconst (-1), 1) := by decide +kernel
theorem dX5_digitHere_25 : decode cX5_digitHere 25 = .ok (.ireturn, 1) := by decide +kernel
theorem dX5_readSign_0 : decode cX5_readSign 0 = .ok (.aload_n 0, 1) := by decide +kernel
theorem dX5_readSign_1 : decode cX5_readSign 1 = .ok (.invokevirtual 39, 3) := by decide +kernel
theorem dX5_readSign_4 : decode cX5_readSign 4 = .ok (.iload_n 1, 1) := by decide +kernel
theorem dX5_readSign_5 : decode cX5_readSign 5 = .ok (.if_icmp .eq 5, 3) := by decide +kernel
theorem dX5_readSign_8 : decode cX5_readSign 8 = .ok (.iconst 0, 1) := by decide +kernel
theorem dX5_readSign_9 : decode cX5_readSign 9 = .ok (.ireturn, 1) := by decide +kernel
theorem dX5_readSign_10 : decode cX5_readSign 10 = .ok (.aload_n 0, 1) := by decide +kernel
theorem dX5_readSign_11 : decode cX5_readSign 11 = .ok (.dup, 1) := by decide +kernel
theorem dX5_readSign_12 : decode cX5_readSign 12 = .ok (.getfield 22, 3) := by decide +kernel
theorem dX5_readSign_15 : decode cX5_readSign 15 = .ok (.iconst 1, 1) := by decide +kernel
theorem dX5_readSign_16 : decode cX5_readSign 16 = .ok (.iadd, 1) := by decide +kernel
theorem dX5_readSign_17 : decode cX5_readSign 17 = .ok (.putfield 22, 3) := by decide +kernel
theorem dX5_readSign_20 : decode cX5_readSign 20 = .ok (.iconst 1, 1) := by decide +kernel
theorem dX5_readSign_21 : decode cX5_readSign 21 = .ok (.ireturn, 1) := by decide +kernel
theorem dX5_readDigit_0 : decode cX5_readDigit 0 = .ok (.aload_n 0, 1) := by decide +kernel
theorem dX5_readDigit_1 : decode cX5_readDigit 1 = .ok (.invokevirtual 66, 3) := by decide +kernel
theorem dX5_readDigit_4 : decode cX5_readDigit 4 = .ok (.istore_n 3, 1) := by decide +kernel
theorem dX5_readDigit_5 : decode cX5_readDigit 5 = .ok (.iload_n 3, 1) := by decide +kernel
theorem dX5_readDigit_6 : decode cX5_readDigit 6 = .ok (.ifCond .lt 8, 3) := by decide +kernel
theorem dX5_readDigit_9 : decode cX5_readDigit 9 = .ok (.iload_n 3, 1) := by decide +kernel
theorem dX5_readDigit_10 : decode cX5_readDigit 10 = .ok (.iload_n 2, 1) := by decide +kernel
theorem dX5_readDigit_11 : decode cX5_readDigit 11 = .ok (.if_icmp .lt 5, 3) := by decide +kernel
theorem dX5_readDigit_14 : decode cX5_readDigit 14 = .ok (.iconst 0, 1) := by decide +kernel
theorem dX5_readDigit_15 : decode cX5_readDigit 15 = .ok (.ireturn, 1) := by decide +kernel
theorem dX5_readDigit_16 : decode cX5_readDigit 16 = .ok (.aload_n 0, 1) := by decide +kernel
theorem dX5_readDigit_17 : decode cX5_readDigit 17 = .ok (.getfield 15, 3) := by decide +kernel
theorem dX5_readDigit_20 : decode cX5_readDigit 20 = .ok (.iload_n 1, 1) := by decide +kernel
theorem dX5_readDigit_21 : decode cX5_readDigit 21 = .ok (.iload_n 3, 1) := by decide +kernel
theorem dX5_readDigit_22 : decode cX5_readDigit 22 = .ok (.iastore, 1) := by decide +kernel
theorem dX5_readDigit_23 : decode cX5_readDigit 23 = .ok (.aload_n 0, 1) := by decide +kernel
theorem dX5_readDigit_24 : decode cX5_readDigit 24 = .ok (.dup, 1) := by decide +kernel
theorem dX5_readDigit_25 : decode cX5_readDigit 25 = .ok (.getfield 22, 3) := by decide +kernel
theorem dX5_readDigit_28 : decode cX5_readDigit 28 = .ok (.iconst 1, 1) := by decide +kernel
theorem dX5_readDigit_29 : decode cX5_readDigit 29 = .ok (.iadd, 1) := by decide +kernel
theorem dX5_readDigit_30 : decode cX5_readDigit 30 = .ok (.putfield 22, 3) := by decide +kernel
theorem dX5_readDigit_33 : decode cX5_readDigit 33 = .ok (.iconst 1, 1) := by decide +kernel
theorem dX5_readDigit_34 : decode cX5_readDigit 34 = .ok (.ireturn, 1) := by decide +kernel
theorem dX5_readNumber_0 : decode cX5_readNumber 0 = .ok (.aload_n 0, 1) := by decide +kernel
theorem dX5_readNumber_1 : decode cX5_readNumber 1 = .ok (.invokevirtual 66, 3) := by decide +kernel
theorem dX5_readNumber_4 : decode cX5_readNumber 4 = .ok (.istore 4, 2) := by decide +kernel
theorem dX5_readNumber_6 : decode cX5_readNumber 6 = .ok (.iload 4, 2) := by decide +kernel
theorem dX5_readNumber_8 : decode cX5_readNumber 8 = .ok (.iload_n 2, 1) := by decide +kernel
theorem dX5_readNumber_9 : decode cX5_readNumber 9 = .ok (.if_icmp .ge 5, 3) := by decide +kernel
theorem dX5_readNumber_12 : decode cX5_readNumber 12 = .ok (.iconst 0, 1) := by decide +kernel
theorem dX5_readNumber_13 : decode cX5_readNumber 13 = .ok (.ireturn, 1) := by decide +kernel
theorem dX5_readNumber_14 : decode cX5_readNumber 14 = .ok (.aload_n 0, 1) := by decide +kernel
theorem dX5_readNumber_15 : decode cX5_readNumber 15 = .ok (.dup, 1) := by decide +kernel
theorem dX5_readNumber_16 : decode cX5_readNumber 16 = .ok (.getfield 22, 3) := by decide +kernel
theorem dX5_readNumber_19 : decode cX5_readNumber 19 = .ok (.iconst 1, 1) := by decide +kernel
theorem dX5_readNumber_20 : decode cX5_readNumber 20 = .ok (.iadd, 1) := by decide +kernel
theorem dX5_readNumber_21 : decode cX5_readNumber 21 = .ok (.putfield 22, 3) := by decide +kernel
theorem dX5_readNumber_24 : decode cX5_readNumber 24 = .ok (.iconst 1, 1) := by decide +kernel
theorem dX5_readNumber_25 : decode cX5_readNumber 25 = .ok (.istore 5, 2) := by decide +kernel
theorem dX5_readNumber_27 : decode cX5_readNumber 27 = .ok (.iload 5, 2) := by decide +kernel
theorem dX5_readNumber_29 : decode cX5_readNumber 29 = .ok (.bipush 60, 2) := by decide +kernel
theorem dX5_readNumber_31 : decode cX5_readNumber 31 = .ok (.if_icmp .ge 55, 3) := by decide +kernel
theorem dX5_readNumber_34 : decode cX5_readNumber 34 = .ok (.aload_n 0, 1) := by decide +kernel
theorem dX5_readNumber_35 : decode cX5_readNumber 35 = .ok (.invokevirtual 66, 3) := by decide +kernel
theorem dX5_readNumber_38 : decode cX5_readNumber 38 = .ok (.ifCond .lt 48, 3) := by decide +kernel
theorem dX5_readNumber_41 : decode cX5_readNumber 41 = .ok (.iload 4, 2) := by decide +kernel
theorem dX5_readNumber_43 : decode cX5_readNumber 43 = .ok (.bipush 10, 2) := by decide +kernel
theorem dX5_readNumber_45 : decode cX5_readNumber 45 = .ok (.imul, 1) := by decide +kernel
theorem dX5_readNumber_46 : decode cX5_readNumber 46 = .ok (.aload_n 0, 1) := by decide +kernel
theorem dX5_readNumber_47 : decode cX5_readNumber 47 = .ok (.invokevirtual 66, 3) := by decide +kernel
theorem dX5_readNumber_50 : decode cX5_readNumber 50 = .ok (.iadd, 1) := by decide +kernel
theorem dX5_readNumber_51 : decode cX5_readNumber 51 = .ok (.istore 6, 2) := by decide +kernel
theorem dX5_readNumber_53 : decode cX5_readNumber 53 = .ok (.iload 4, 2) := by decide +kernel
theorem dX5_readNumber_55 : decode cX5_readNumber 55 = .ok (.ifCond .eq 9, 3) := by decide +kernel
theorem dX5_readNumber_58 : decode cX5_readNumber 58 = .ok (.iload 6, 2) := by decide +kernel
theorem dX5_readNumber_60 : decode cX5_readNumber 60 = .ok (.iload_n 3, 1) := by decide +kernel
theorem dX5_readNumber_61 : decode cX5_readNumber 61 = .ok (.if_icmp .le 5, 3) := by decide +kernel
theorem dX5_readNumber_64 : decode cX5_readNumber 64 = .ok (.iconst 0, 1) := by decide +kernel
theorem dX5_readNumber_65 : decode cX5_readNumber 65 = .ok (.ireturn, 1) := by decide +kernel
theorem dX5_readNumber_66 : decode cX5_readNumber 66 = .ok (.iload 6, 2) := by decide +kernel
theorem dX5_readNumber_68 : decode cX5_readNumber 68 = .ok (.istore 4, 2) := by decide +kernel
theorem dX5_readNumber_70 : decode cX5_readNumber 70 = .ok (.aload_n 0, 1) := by decide +kernel
theorem dX5_readNumber_71 : decode cX5_readNumber 71 = .ok (.dup, 1) := by decide +kernel
theorem dX5_readNumber_72 : decode cX5_readNumber 72 = .ok (.getfield 22, 3) := by decide +kernel
theorem dX5_readNumber_75 : decode cX5_readNumber 75 = .ok (.iconst 1, 1) := by decide +kernel
theorem dX5_readNumber_76 : decode cX5_readNumber 76 = .ok (.iadd, 1) := by decide +kernel
theorem dX5_readNumber_77 : decode cX5_readNumber 77 = .ok (.putfield 22, 3) := by decide +kernel
theorem dX5_readNumber_80 : decode cX5_readNumber 80 = .ok (.iinc 5 1, 3) := by decide +kernel
theorem dX5_readNumber_83 : decode cX5_readNumber 83 = .ok (.goto (-56), 3) := by decide +kernel
theorem dX5_readNumber_86 : decode cX5_readNumber 86 = .ok (.aload_n 0, 1) := by decide +kernel
theorem dX5_readNumber_87 : decode cX5_readNumber 87 = .ok (.getfield 15, 3) := by decide +kernel
theorem dX5_readNumber_90 : decode cX5_readNumber 90 = .ok (.iload_n 1, 1) := by decide +kernel
theorem dX5_readNumber_91 : decode cX5_readNumber 91 = .ok (.iload 4, 2) := by decide +kernel
theorem dX5_readNumber_93 : decode cX5_readNumber 93 = .ok (.iastore, 1) := by decide +kernel
theorem dX5_readNumber_94 : decode cX5_readNumber 94 = .ok (.iconst 1, 1) := by decide +kernel
theorem dX5_readNumber_95 : decode cX5_readNumber 95 = .ok (.ireturn, 1) := by decide +kernel
theorem dX6_init_0 : decode cX6_init 0 = .ok (.aload_n 0, 1) := by decide +kernel
theorem dX6_init_1 : decode cX6_init 1 = .ok (.invokespecial 1, 3) := by decide +kernel
theorem dX6_init_4 : decode cX6_init 4 = .ok (.aload_n 0, 1) := by decide +kernel
theorem dX6_init_5 : decode cX6_init 5 = .ok (.new 7, 3) := by decide +kernel
theorem dX6_init_8 : decode cX6_init 8 = .ok (.dup, 1) := by decide +kernel
theorem dX6_init_9 : decode cX6_init 9 = .ok (.invokespecial 9, 3) := by decide +kernel
theorem dX6_init_12 : decode cX6_init 12 = .ok (.putfield 10, 3) := by decide +kernel
theorem dX6_init_15 : decode cX6_init 15 = .ok (.aload_n 0, 1) := by decide +kernel
theorem dX6_init_16 : decode cX6_init 16 = .ok (.new 7, 3) := by decide +kernel
theorem dX6_init_19 : decode cX6_init 19 = .ok (.dup, 1) := by decide +kernel
theorem dX6_init_20 : decode cX6_init 20 = .ok (.invokespecial 9, 3) := by decide +kernel
theorem dX6_init_23 : decode cX6_init 23 = .ok (.putfield 16, 3) := by decide +kernel
theorem dX6_init_26 : decode cX6_init 26 = .ok (.aload_n 0, 1) := by decide +kernel
theorem dX6_init_27 : decode cX6_init 27 = .ok (.new 7, 3) := by decide +kernel
theorem dX6_init_30 : decode cX6_init 30 = .ok (.dup, 1) := by decide +kernel
theorem dX6_init_31 : decode cX6_init 31 = .ok (.invokespecial 9, 3) := by decide +kernel
theorem dX6_init_34 : decode cX6_init 34 = .ok (.putfield 19, 3) := by decide +kernel
theorem dX6_init_37 : decode cX6_init 37 = .ok (.aload_n 0, 1) := by decide +kernel
theorem dX6_init_38 : decode cX6_init 38 = .ok (.new 22, 3) := by decide +kernel
theorem dX6_init_41 : decode cX6_init 41 = .ok (.dup, 1) := by decide +kernel
theorem dX6_init_42 : decode cX6_init 42 = .ok (.invokespecial 24, 3) := by decide +kernel
theorem dX6_init_45 : decode cX6_init 45 = .ok (.putfield 25, 3) := by decide +kernel
theorem dX6_init_48 : decode cX6_init 48 = .ok (.aload_n 0, 1) := by decide +kernel
theorem dX6_init_49 : decode cX6_init 49 = .ok (.new 29, 3) := by decide +kernel
theorem dX6_init_52 : decode cX6_init 52 = .ok (.dup, 1) := by decide +kernel
theorem dX6_init_53 : decode cX6_init 53 = .ok (.invokespecial 31, 3) := by decide +kernel
theorem dX6_init_56 : decode cX6_init 56 = .ok (.putfield 32, 3) := by decide +kernel
theorem dX6_init_59 : decode cX6_init 59 = .ok (.aload_n 0, 1) := by decide +kernel
theorem dX6_init_60 : decode cX6_init 60 = .ok (.new 36, 3) := by decide +kernel
theorem dX6_init_63 : decode cX6_init 63 = .ok (.dup, 1) := by decide +kernel
theorem dX6_init_64 : decode cX6_init 64 = .ok (.invokespecial 38, 3) := by decide +kernel
theorem dX6_init_67 : decode cX6_init 67 = .ok (.putfield 39, 3) := by decide +kernel
theorem dX6_init_70 : decode cX6_init 70 = .ok (.return_, 1) := by decide +kernel
theorem dX6_lend_0 : decode cX6_lend 0 = .ok (.aload_n 0, 1) := by decide +kernel
theorem dX6_lend_1 : decode cX6_lend 1 = .ok (.getfield 25, 3) := by decide +kernel
theorem dX6_lend_4 : decode cX6_lend 4 = .ok (.aload_n 0, 1) := by decide +kernel
theorem dX6_lend_5 : decode cX6_lend 5 = .ok (.getfield 10, 3) := by decide +kernel
theorem dX6_lend_8 : decode cX6_lend 8 = .ok (.invokevirtual 43, 3) := by decide +kernel
theorem dX6_lend_11 : decode cX6_lend 11 = .ok (.aload_n 0, 1) := by decide +kernel
theorem dX6_lend_12 : decode cX6_lend 12 = .ok (.aload_n 0, 1) := by decide +kernel
theorem dX6_lend_13 : decode cX6_lend 13 = .ok (.getfield 10, 3) := by decide +kernel
theorem dX6_lend_16 : decode cX6_lend 16 = .ok (.iload_n 1, 1) := by decide +kernel
theorem dX6_lend_17 : decode cX6_lend 17 = .ok (.iload_n 2, 1) := by decide +kernel
theorem dX6_lend_18 : decode cX6_lend 18 = .ok (.iload_n 3, 1) := by decide +kernel
theorem dX6_lend_19 : decode cX6_lend 19 = .ok (.iload 4, 2) := by decide +kernel
theorem dX6_lend_21 : decode cX6_lend 21 = .ok (.invokevirtual 47, 3) := by decide +kernel
theorem dX6_lend_24 : decode cX6_lend 24 = .ok (.invokevirtual 51, 3) := by decide +kernel
theorem dX6_lend_27 : decode cX6_lend 27 = .ok (.ireturn, 1) := by decide +kernel
theorem dX6_half_0 : decode cX6_half 0 = .ok (.aload_n 0, 1) := by decide +kernel
theorem dX6_half_1 : decode cX6_half 1 = .ok (.getfield 25, 3) := by decide +kernel
theorem dX6_half_4 : decode cX6_half 4 = .ok (.aload_n 0, 1) := by decide +kernel
theorem dX6_half_5 : decode cX6_half 5 = .ok (.getfield 10, 3) := by decide +kernel
theorem dX6_half_8 : decode cX6_half 8 = .ok (.invokevirtual 43, 3) := by decide +kernel
theorem dX6_half_11 : decode cX6_half 11 = .ok (.aload_n 0, 1) := by decide +kernel
theorem dX6_half_12 : decode cX6_half 12 = .ok (.aload_n 0, 1) := by decide +kernel
theorem dX6_half_13 : decode cX6_half 13 = .ok (.getfield 10, 3) := by decide +kernel
theorem dX6_half_16 : decode cX6_half 16 = .ok (.iload_n 1, 1) := by decide +kernel
theorem dX6_half_17 : decode cX6_half 17 = .ok (.iload_n 2, 1) := by decide +kernel
theorem dX6_half_18 : decode cX6_half 18 = .ok (.iload_n 3, 1) := by decide +kernel
theorem dX6_half_19 : decode cX6_half 19 = .ok (.invokevirtual 55, 3) := by decide +kernel
theorem dX6_half_22 : decode cX6_half 22 = .ok (.invokevirtual 51, 3) := by decide +kernel
theorem dX6_half_25 : decode cX6_half 25 = .ok (.ireturn, 1) := by decide +kernel
theorem dX6_giveBack_0 : decode cX6_giveBack 0 = .ok (.aload_n 0, 1) := by decide +kernel
theorem dX6_giveBack_1 : decode cX6_giveBack 1 = .ok (.getfield 25, 3) := by decide +kernel
theorem dX6_giveBack_4 : decode cX6_giveBack 4 = .ok (.aload_n 0, 1) := by decide +kernel
theorem dX6_giveBack_5 : decode cX6_giveBack 5 = .ok (.getfield 10, 3) := by decide +kernel
theorem dX6_giveBack_8 : decode cX6_giveBack 8 = .ok (.invokevirtual 43, 3) := by decide +kernel
theorem dX6_giveBack_11 : decode cX6_giveBack 11 = .ok (.aload_n 0, 1) := by decide +kernel
theorem dX6_giveBack_12 : decode cX6_giveBack 12 = .ok (.aload_n 0, 1) := by decide +kernel
theorem dX6_giveBack_13 : decode cX6_giveBack 13 = .ok (.getfield 10, 3) := by decide +kernel
theorem dX6_giveBack_16 : decode cX6_giveBack 16 = .ok (.iload_n 1, 1) := by decide +kernel
theorem dX6_giveBack_17 : decode cX6_giveBack 17 = .ok (.invokevirtual 59, 3) := by decide +kernel
theorem dX6_giveBack_20 : decode cX6_giveBack 20 = .ok (.invokevirtual 51, 3) := by decide +kernel
theorem dX6_giveBack_23 : decode cX6_giveBack 23 = .ok (.ireturn, 1) := by decide +kernel
theorem dX6_gather_0 : decode cX6_gather 0 = .ok (.aload_n 0, 1) := by decide +kernel
theorem dX6_gather_1 : decode cX6_gather 1 = .ok (.getfield 25, 3) := by decide +kernel
theorem dX6_gather_4 : decode cX6_gather 4 = .ok (.aload_n 0, 1) := by decide +kernel
theorem dX6_gather_5 : decode cX6_gather 5 = .ok (.getfield 10, 3) := by decide +kernel
theorem dX6_gather_8 : decode cX6_gather 8 = .ok (.invokevirtual 43, 3) := by decide +kernel
theorem dX6_gather_11 : decode cX6_gather 11 = .ok (.aload_n 0, 1) := by decide +kernel
theorem dX6_gather_12 : decode cX6_gather 12 = .ok (.aload_n 0, 1) := by decide +kernel
theorem dX6_gather_13 : decode cX6_gather 13 = .ok (.iload_n 1, 1) := by decide +kernel
theorem dX6_gather_14 : decode cX6_gather 14 = .ok (.iload_n 2, 1) := by decide +kernel
theorem dX6_gather_15 : decode cX6_gather 15 = .ok (.invokevirtual 62, 3) := by decide +kernel
theorem dX6_gather_18 : decode cX6_gather 18 = .ok (.invokevirtual 51, 3) := by decide +kernel
theorem dX6_gather_21 : decode cX6_gather 21 = .ok (.ireturn, 1) := by decide +kernel
theorem dX6_hold_0 : decode cX6_hold 0 = .ok (.aload_n 0, 1) := by decide +kernel
theorem dX6_hold_1 : decode cX6_hold 1 = .ok (.getfield 25, 3) := by decide +kernel
theorem dX6_hold_4 : decode cX6_hold 4 = .ok (.aload_n 0, 1) := by decide +kernel
theorem dX6_hold_5 : decode cX6_hold 5 = .ok (.getfield 10, 3) := by decide +kernel
theorem dX6_hold_8 : decode cX6_hold 8 = .ok (.invokevirtual 43, 3) := by decide +kernel
theorem dX6_hold_11 : decode cX6_hold 11 = .ok (.aload_n 0, 1) := by decide +kernel
theorem dX6_hold_12 : decode cX6_hold 12 = .ok (.aload_n 0, 1) := by decide +kernel
theorem dX6_hold_13 : decode cX6_hold 13 = .ok (.getfield 10, 3) := by decide +kernel
theorem dX6_hold_16 : decode cX6_hold 16 = .ok (.iload_n 1, 1) := by decide +kernel
theorem dX6_hold_17 : decode cX6_hold 17 = .ok (.iload_n 2, 1) := by decide +kernel
theorem dX6_hold_18 : decode cX6_hold 18 = .ok (.iload_n 3, 1) := by decide +kernel
theorem dX6_hold_19 : decode cX6_hold 19 = .ok (.invokevirtual 66, 3) := by decide +kernel
theorem dX6_hold_22 : decode cX6_hold 22 = .ok (.invokevirtual 51, 3) := by decide +kernel
theorem dX6_hold_25 : decode cX6_hold 25 = .ok (.ireturn, 1) := by decide +kernel
theorem dX6_write_0 : decode cX6_write 0 = .ok (.aload_n 0, 1) := by decide +kernel
theorem dX6_write_1 : decode cX6_write 1 = .ok (.getfield 25, 3) := by decide +kernel
theorem dX6_write_4 : decode cX6_write 4 = .ok (.aload_n 0, 1) := by decide +kernel
theorem dX6_write_5 : decode cX6_write 5 = .ok (.getfield 10, 3) := by decide +kernel
theorem dX6_write_8 : decode cX6_write 8 = .ok (.invokevirtual 43, 3) := by decide +kernel
theorem dX6_write_11 : decode cX6_write 11 = .ok (.aload_n 0, 1) := by decide +kernel
theorem dX6_write_12 : decode cX6_write 12 = .ok (.aload_n 0, 1) := by decide +kernel
theorem dX6_write_13 : decode cX6_write 13 = .ok (.getfield 10, 3) := by decide +kernel
theorem dX6_write_16 : decode cX6_write 16 = .ok (.iload_n 1, 1) := by decide +kernel
theorem dX6_write_17 : decode cX6_write 17 = .ok (.iload_n 2, 1) := by decide +kernel
theorem dX6_write_18 : decode cX6_write 18 = .ok (.iload_n 3, 1) := by decide +kernel
theorem dX6_write_19 : decode cX6_write 19 = .ok (.invokevirtual 70, 3) := by decide +kernel
theorem dX6_write_22 : decode cX6_write 22 = .ok (.invokevirtual 51, 3) := by decide +kernel
theorem dX6_write_25 : decode cX6_write 25 = .ok (.ireturn, 1) := by decide +kernel
theorem dX6_read_0 : decode cX6_read 0 = .ok (.iload_n 1, 1) := by decide +kernel
theorem dX6_read_1 : decode cX6_read 1 = .ok (.invokestatic 73, 3) := by decide +kernel
theorem dX6_read_4 : decode cX6_read 4 = .ok (.ifCond .eq 10, 3) := by decide +kernel
theorem dX6_read_7 : decode cX6_read 7 = .ok (.iload_n 2, 1) := by decide +kernel
theorem dX6_read_8 : decode cX6_read 8 = .ok (.invokestatic 77, 3) := by decide +kernel
theorem dX6_read_11 : decode cX6_read 11 = .ok (.ifCond .ne 5, 3) := by decide +kernel
theorem dX6_read_14 : decode cX6_read 14 = .ok (.iconst (-1), 1) := by decide +kernel
theorem dX6_read_15 : decode cX6_read 15 = .ok (.ireturn, 1) := by decide +kernel
theorem dX6_read_16 : decode cX6_read 16 = .ok (.aload_n 0, 1) := by decide +kernel
theorem dX6_read_17 : decode cX6_read 17 = .ok (.getfield 10, 3) := by decide +kernel
theorem dX6_read_20 : decode cX6_read 20 = .ok (.iload_n 1, 1) := by decide +kernel
theorem dX6_read_21 : decode cX6_read 21 = .ok (.iload_n 2, 1) := by decide +kernel
theorem dX6_read_22 : decode cX6_read 22 = .ok (.invokevirtual 80, 3) := by decide +kernel
theorem dX6_read_25 : decode cX6_read 25 = .ok (.ifCond .ne 8, 3) := by decide +kernel
theorem dX6_read_28 : decode cX6_read 28 = .ok (.bipush (-4), 2) := by decide +kernel
theorem dX6_read_30 : decode cX6_read 30 = .ok (.goto 12, 3) := by decide +kernel
theorem dX6_read_33 : decode cX6_read 33 = .ok (.aload_n 0, 1) := by decide +kernel
theorem dX6_read_34 : decode cX6_read 34 = .ok (.getfield 10, 3) := by decide +kernel
theorem dX6_read_37 : decode cX6_read 37 = .ok (.getfield 83, 3) := by decide +kernel
theorem dX6_read_40 : decode cX6_read 40 = .ok (.iload_n 2, 1) := by decide +kernel
theorem dX6_read_41 : decode cX6_read 41 = .ok (.iaload, 1) := by decide +kernel
theorem dX6_read_42 : decode cX6_read 42 = .ok (.ireturn, 1) := by decide +kernel
theorem dX6_claim_0 : decode cX6_claim 0 = .ok (.aload_n 0, 1) := by decide +kernel
theorem dX6_claim_1 : decode cX6_claim 1 = .ok (.getfield 25, 3) := by decide +kernel
theorem dX6_claim_4 : decode cX6_claim 4 = .ok (.aload_n 0, 1) := by decide +kernel
theorem dX6_claim_5 : decode cX6_claim 5 = .ok (.getfield 10, 3) := by decide +kernel
theorem dX6_claim_8 : decode cX6_claim 8 = .ok (.invokevirtual 43, 3) := by decide +kernel
theorem dX6_claim_11 : decode cX6_claim 11 = .ok (.aload_n 0, 1) := by decide +kernel
theorem dX6_claim_12 : decode cX6_claim 12 = .ok (.aload_n 0, 1) := by decide +kernel
theorem dX6_claim_13 : decode cX6_claim 13 = .ok (.getfield 10, 3) := by decide +kernel
theorem dX6_claim_16 : decode cX6_claim 16 = .ok (.iload_n 1, 1) := by decide +kernel
theorem dX6_claim_17 : decode cX6_claim 17 = .ok (.iload_n 2, 1) := by decide +kernel
theorem dX6_claim_18 : decode cX6_claim 18 = .ok (.iload_n 3, 1) := by decide +kernel
theorem dX6_claim_19 : decode cX6_claim 19 = .ok (.invokevirtual 87, 3) := by decide +kernel
theorem dX6_claim_22 : decode cX6_claim 22 = .ok (.invokevirtual 51, 3) := by decide +kernel
theorem dX6_claim_25 : decode cX6_claim 25 = .ok (.ireturn, 1) := by decide +kernel
theorem dX6_serve_0 : decode cX6_serve 0 = .ok (.aload_n 0, 1) := by decide +kernel
theorem dX6_serve_1 : decode cX6_serve 1 = .ok (.getfield 25, 3) := by decide +kernel
theorem dX6_serve_4 : decode cX6_serve 4 = .ok (.aload_n 0, 1) := by decide +kernel
theorem dX6_serve_5 : decode cX6_serve 5 = .ok (.getfield 10, 3) := by decide +kernel
theorem dX6_serve_8 : decode cX6_serve 8 = .ok (.invokevirtual 43, 3) := by decide +kernel
theorem dX6_serve_11 : decode cX6_serve 11 = .ok (.aload_n 0, 1) := by decide +kernel
theorem dX6_serve_12 : decode cX6_serve 12 = .ok (.aload_n 0, 1) := by decide +kernel
theorem dX6_serve_13 : decode cX6_serve 13 = .ok (.iload_n 1, 1) := by decide +kernel
theorem dX6_serve_14 : decode cX6_serve 14 = .ok (.invokevirtual 90, 3) := by decide +kernel
theorem dX6_serve_17 : decode cX6_serve 17 = .ok (.invokevirtual 51, 3) := by decide +kernel
theorem dX6_serve_20 : decode cX6_serve 20 = .ok (.ireturn, 1) := by decide +kernel
theorem dX6_handOver_0 : decode cX6_handOver 0 = .ok (.aload_n 0, 1) := by decide +kernel
theorem dX6_handOver_1 : decode cX6_handOver 1 = .ok (.getfield 25, 3) := by decide +kernel
theorem dX6_handOver_4 : decode cX6_handOver 4 = .ok (.aload_n 0, 1) := by decide +kernel
theorem dX6_handOver_5 : decode cX6_handOver 5 = .ok (.getfield 10, 3) := by decide +kernel
theorem dX6_handOver_8 : decode cX6_handOver 8 = .ok (.invokevirtual 43, 3) := by decide +kernel
theorem dX6_handOver_11 : decode cX6_handOver 11 = .ok (.aload_n 0, 1) := by decide +kernel
theorem dX6_handOver_12 : decode cX6_handOver 12 = .ok (.aload_n 0, 1) := by decide +kernel
theorem dX6_handOver_13 : decode cX6_handOver 13 = .ok (.getfield 10, 3) := by decide +kernel
theorem dX6_handOver_16 : decode cX6_handOver 16 = .ok (.iload_n 1, 1) := by decide +kernel
theorem dX6_handOver_17 : decode cX6_handOver 17 = .ok (.iload_n 2, 1) := by decide +kernel
theorem dX6_handOver_18 : decode cX6_handOver 18 = .ok (.invokevirtual 93, 3) := by decide +kernel
theorem dX6_handOver_21 : decode cX6_handOver 21 = .ok (.invokevirtual 51, 3) := by decide +kernel
theorem dX6_handOver_24 : decode cX6_handOver 24 = .ok (.ireturn, 1) := by decide +kernel
theorem dX6_type_0 : decode cX6_type 0 = .ok (.aload_n 0, 1) := by decide +kernel
theorem dX6_type_1 : decode cX6_type 1 = .ok (.getfield 39, 3) := by decide +kernel
theorem dX6_type_4 : decode cX6_type 4 = .ok (.iload_n 1, 1) := by decide +kernel
theorem dX6_type_5 : decode cX6_type 5 = .ok (.invokevirtual 96, 3) := by decide +kernel
theorem dX6_type_8 : decode cX6_type 8 = .ok (.ireturn, 1) := by decide +kernel
theorem dX6_clearText_0 : decode cX6_clearText 0 = .ok (.aload_n 0, 1) := by decide +kernel
theorem dX6_clearText_1 : decode cX6_clearText 1 = .ok (.getfield 39, 3) := by decide +kernel
theorem dX6_clearText_4 : decode cX6_clearText 4 = .ok (.invokevirtual 100, 3) := by decide +kernel
theorem dX6_clearText_7 : decode cX6_clearText 7 = .ok (.ireturn, 1) := by decide +kernel
theorem dX6_perform_0 : decode cX6_perform 0 = .ok (.aload_n 0, 1) := by decide +kernel
theorem dX6_perform_1 : decode cX6_perform 1 = .ok (.getfield 39, 3) := by decide +kernel
theorem dX6_perform_4 : decode cX6_perform 4 = .ok (.invokevirtual 104, 3) := by decide +kernel
theorem dX6_perform_7 : decode cX6_perform 7 = .ok (.istore_n 1, 1) := by decide +kernel
theorem dX6_perform_8 : decode cX6_perform 8 = .ok (.iload_n 1, 1) := by decide +kernel
theorem dX6_perform_9 : decode cX6_perform 9 = .ok (.ifCond .lt 8, 3) := by decide +kernel
theorem dX6_perform_12 : decode cX6_perform 12 = .ok (.bipush (-100), 2) := by decide +kernel
theorem dX6_perform_14 : decode cX6_perform 14 = .ok (.iload_n 1, 1) := by decide +kernel
theorem dX6_perform_15 : decode cX6_perform 15 = .ok (.isub, 1) := by decide +kernel
theorem dX6_perform_16 : decode cX6_perform 16 = .ok (.ireturn, 1) := by decide +kernel
theorem dX6_perform_17 : decode cX6_perform 17 = .ok (.aload_n 0, 1) := by decide +kernel
theorem dX6_perform_18 : decode cX6_perform 18 = .ok (.getfield 25, 3) := by decide +kernel
theorem dX6_perform_21 : decode cX6_perform 21 = .ok (.aload_n 0, 1) := by decide +kernel
theorem dX6_perform_22 : decode cX6_perform 22 = .ok (.getfield 10, 3) := by decide +kernel
theorem dX6_perform_25 : decode cX6_perform 25 = .ok (.invokevirtual 43, 3) := by decide +kernel
theorem dX6_perform_28 : decode cX6_perform 28 = .ok (.aload_n 0, 1) := by decide +kernel
theorem dX6_perform_29 : decode cX6_perform 29 = .ok (.aload_n 0, 1) := by decide +kernel
theorem dX6_perform_30 : decode cX6_perform 30 = .ok (.invokevirtual 107, 3) := by decide +kernel
theorem dX6_perform_33 : decode cX6_perform 33 = .ok (.invokevirtual 51, 3) := by decide +kernel
theorem dX6_perform_36 : decode cX6_perform 36 = .ok (.ireturn, 1) := by decide +kernel
theorem dX6_stop_0 : decode cX6_stop 0 = .ok (.iload_n 1, 1) := by decide +kernel
theorem dX6_stop_1 : decode cX6_stop 1 = .ok (.ifCond .lt 8, 3) := by decide +kernel
theorem dX6_stop_4 : decode cX6_stop 4 = .ok (.iload_n 1, 1) := by decide +kernel
theorem dX6_stop_5 : decode cX6_stop 5 = .ok (.iconst 1, 1) := by decide +kernel
theorem dX6_stop_6 : decode cX6_stop 6 = .ok (.if_icmp .le 6, 3) := by decide +kernel
theorem dX6_stop_9 : decode cX6_stop 9 = .ok (.bipush (-2), 2) := by decide +kernel
theorem dX6_stop_11 : decode cX6_stop 11 = .ok (.ireturn, 1) := by decide +kernel
theorem dX6_stop_12 : decode cX6_stop 12 = .ok (.aload_n 0, 1) := by decide +kernel
theorem dX6_stop_13 : decode cX6_stop 13 = .ok (.getfield 110, 3) := by decide +kernel
theorem dX6_stop_16 : decode cX6_stop 16 = .ok (.ifCond .ne 6, 3) := by decide +kernel
theorem dX6_stop_19 : decode cX6_stop 19 = .ok (.bipush (-5), 2) := by decide +kernel
theorem dX6_stop_21 : decode cX6_stop 21 = .ok (.ireturn, 1) := by decide +kernel
theorem dX6_stop_22 : decode cX6_stop 22 = .ok (.iload_n 1, 1) := by decide +kernel
theorem dX6_stop_23 : decode cX6_stop 23 = .ok (.ifCond .ne 10, 3) := by decide +kernel
theorem dX6_stop_26 : decode cX6_stop 26 = .ok (.aload_n 0, 1) := by decide +kernel
theorem dX6_stop_27 : decode cX6_stop 27 = .ok (.getfield 114, 3) := by decide +kernel
theorem dX6_stop_30 : decode cX6_stop 30 = .ok (.goto 7, 3) := by decide +kernel
theorem dX6_stop_33 : decode cX6_stop 33 = .ok (.aload_n 0, 1) := by decide +kernel
theorem dX6_stop_34 : decode cX6_stop 34 = .ok (.getfield 118, 3) := by decide +kernel
theorem dX6_stop_37 : decode cX6_stop 37 = .ok (.ireturn, 1) := by decide +kernel
theorem dX6_undo_0 : decode cX6_undo 0 = .ok (.aload_n 0, 1) := by decide +kernel
theorem dX6_undo_1 : decode cX6_undo 1 = .ok (.getfield 25, 3) := by decide +kernel
theorem dX6_undo_4 : decode cX6_undo 4 = .ok (.invokevirtual 121, 3) := by decide +kernel
theorem dX6_undo_7 : decode cX6_undo 7 = .ok (.astore_n 1, 1) := by decide +kernel
theorem dX6_undo_8 : decode cX6_undo 8 = .ok (.aload_n 1, 1) := by decide +kernel
theorem dX6_undo_9 : decode cX6_undo 9 = .ok (.ifnonnull 6, 3) := by decide +kernel
theorem dX6_undo_12 : decode cX6_undo 12 = .ok (.bipush (-5), 2) := by decide +kernel
theorem dX6_undo_14 : decode cX6_undo 14 = .ok (.ireturn, 1) := by decide +kernel
theorem dX6_undo_15 : decode cX6_undo 15 = .ok (.aload_n 0, 1) := by decide +kernel
theorem dX6_undo_16 : decode cX6_undo 16 = .ok (.getfield 10, 3) := by decide +kernel
theorem dX6_undo_19 : decode cX6_undo 19 = .ok (.aload_n 1, 1) := by decide +kernel
theorem dX6_undo_20 : decode cX6_undo 20 = .ok (.invokevirtual 125, 3) := by decide +kernel
theorem dX6_undo_23 : decode cX6_undo 23 = .ok (.aload_n 0, 1) := by decide +kernel
theorem dX6_undo_24 : decode cX6_undo 24 = .ok (.getfield 25, 3) := by decide +kernel
theorem dX6_undo_27 : decode cX6_undo 27 = .ok (.invokevirtual 128, 3) := by decide +kernel
theorem dX6_undo_30 : decode cX6_undo 30 = .ok (.ireturn, 1) := by decide +kernel
theorem dX6_keep_0 : decode cX6_keep 0 = .ok (.aload_n 0, 1) := by decide +kernel
theorem dX6_keep_1 : decode cX6_keep 1 = .ok (.getfield 19, 3) := by decide +kernel
theorem dX6_keep_4 : decode cX6_keep 4 = .ok (.aload_n 0, 1) := by decide +kernel
theorem dX6_keep_5 : decode cX6_keep 5 = .ok (.getfield 10, 3) := by decide +kernel
theorem dX6_keep_8 : decode cX6_keep 8 = .ok (.invokevirtual 125, 3) := by decide +kernel
theorem dX6_keep_11 : decode cX6_keep 11 = .ok (.aload_n 0, 1) := by decide +kernel
theorem dX6_keep_12 : decode cX6_keep 12 = .ok (.iconst 1, 1) := by decide +kernel
theorem dX6_keep_13 : decode cX6_keep 13 = .ok (.putfield 131, 3) := by decide +kernel
theorem dX6_keep_16 : decode cX6_keep 16 = .ok (.aload_n 0, 1) := by decide +kernel
theorem dX6_keep_17 : decode cX6_keep 17 = .ok (.getfield 10, 3) := by decide +kernel
theorem dX6_keep_20 : decode cX6_keep 20 = .ok (.getfield 134, 3) := by decide +kernel
theorem dX6_keep_23 : decode cX6_keep 23 = .ok (.getfield 138, 3) := by decide +kernel
theorem dX6_keep_26 : decode cX6_keep 26 = .ok (.ireturn, 1) := by decide +kernel
theorem dX6_restore_0 : decode cX6_restore 0 = .ok (.aload_n 0, 1) := by decide +kernel
theorem dX6_restore_1 : decode cX6_restore 1 = .ok (.getfield 131, 3) := by decide +kernel
theorem dX6_restore_4 : decode cX6_restore 4 = .ok (.ifCond .ne 6, 3) := by decide +kernel
theorem dX6_restore_7 : decode cX6_restore 7 = .ok (.bipush (-5), 2) := by decide +kernel
theorem dX6_restore_9 : decode cX6_restore 9 = .ok (.ireturn, 1) := by decide +kernel
theorem dX6_restore_10 : decode cX6_restore 10 = .ok (.aload_n 0, 1) := by decide +kernel
theorem dX6_restore_11 : decode cX6_restore 11 = .ok (.getfield 25, 3) := by decide +kernel
theorem dX6_restore_14 : decode cX6_restore 14 = .ok (.aload_n 0, 1) := by decide +kernel
theorem dX6_restore_15 : decode cX6_restore 15 = .ok (.getfield 10, 3) := by decide +kernel
theorem dX6_restore_18 : decode cX6_restore 18 = .ok (.invokevirtual 43, 3) := by decide +kernel
theorem dX6_restore_21 : decode cX6_restore 21 = .ok (.aload_n 0, 1) := by decide +kernel
theorem dX6_restore_22 : decode cX6_restore 22 = .ok (.getfield 10, 3) := by decide +kernel
theorem dX6_restore_25 : decode cX6_restore 25 = .ok (.aload_n 0, 1) := by decide +kernel
theorem dX6_restore_26 : decode cX6_restore 26 = .ok (.getfield 19, 3) := by decide +kernel
theorem dX6_restore_29 : decode cX6_restore 29 = .ok (.invokevirtual 125, 3) := by decide +kernel
theorem dX6_restore_32 : decode cX6_restore 32 = .ok (.aload_n 0, 1) := by decide +kernel
theorem dX6_restore_33 : decode cX6_restore 33 = .ok (.aload_n 0, 1) := by decide +kernel
theorem dX6_restore_34 : decode cX6_restore 34 = .ok (.getfield 10, 3) := by decide +kernel
theorem dX6_restore_37 : decode cX6_restore 37 = .ok (.getfield 134, 3) := by decide +kernel
theorem dX6_restore_40 : decode cX6_restore 40 = .ok (.getfield 138, 3) := by decide +kernel
theorem dX6_restore_43 : decode cX6_restore 43 = .ok (.invokevirtual 51, 3) := by decide +kernel
theorem dX6_restore_46 : decode cX6_restore 46 = .ok (.ireturn, 1) := by decide +kernel
theorem dX6_cell_0 : decode cX6_cell 0 = .ok (.iload_n 1, 1) := by decide +kernel
theorem dX6_cell_1 : decode cX6_cell 1 = .ok (.invokestatic 77, 3) := by decide +kernel
theorem dX6_cell_4 : decode cX6_cell 4 = .ok (.ifCond .ne 5, 3) := by decide +kernel
theorem dX6_cell_7 : decode cX6_cell 7 = .ok (.iconst (-1), 1) := by decide +kernel
theorem dX6_cell_8 : decode cX6_cell 8 = .ok (.ireturn, 1) := by decide +kernel
theorem dX6_cell_9 : decode cX6_cell 9 = .ok (.iload_n 2, 1) := by decide +kernel
theorem dX6_cell_10 : decode cX6_cell 10 = .ok (.tableswitch 143 0 8 #[50, 60, 70, 80, 89, 101, 113, 125, 134], 50) := by decide +kernel
theorem dX6_cell_60 : decode cX6_cell 60 = .ok (.aload_n 0, 1) := by decide +kernel
theorem dX6_cell_61 : decode cX6_cell 61 = .ok (.getfield 10, 3) := by decide +kernel
theorem dX6_cell_64 : decode cX6_cell 64 = .ok (.getfield 83, 3) := by decide +kernel
theorem dX6_cell_67 : decode cX6_cell 67 = .ok (.iload_n 1, 1) := by decide +kernel
theorem dX6_cell_68 : decode cX6_cell 68 = .ok (.iaload, 1) := by decide +kernel
theorem dX6_cell_69 : decode cX6_cell 69 = .ok (.ireturn, 1) := by decide +kernel
theorem dX6_cell_70 : decode cX6_cell 70 = .ok (.aload_n 0, 1) := by decide +kernel
theorem dX6_cell_71 : decode cX6_cell 71 = .ok (.getfield 10, 3) := by decide +kernel
theorem dX6_cell_74 : decode cX6_cell 74 = .ok (.getfield 143, 3) := by decide +kernel
theorem dX6_cell_77 : decode cX6_cell 77 = .ok (.iload_n 1, 1) := by decide +kernel
theorem dX6_cell_78 : decode cX6_cell 78 = .ok (.iaload, 1) := by decide +kernel
theorem dX6_cell_79 : decode cX6_cell 79 = .ok (.ireturn, 1) := by decide +kernel
theorem dX6_cell_80 : decode cX6_cell 80 = .ok (.aload_n 0, 1) := by decide +kernel
theorem dX6_cell_81 : decode cX6_cell 81 = .ok (.getfield 10, 3) := by decide +kernel
theorem dX6_cell_84 : decode cX6_cell 84 = .ok (.getfield 146, 3) := by decide +kernel
theorem dX6_cell_87 : decode cX6_cell 87 = .ok (.iload_n 1, 1) := by decide +kernel
theorem dX6_cell_88 : decode cX6_cell 88 = .ok (.iaload, 1) := by decide +kernel
theorem dX6_cell_89 : decode cX6_cell 89 = .ok (.ireturn, 1) := by decide +kernel
theorem dX6_cell_90 : decode cX6_cell 90 = .ok (.aload_n 0, 1) := by decide +kernel
theorem dX6_cell_91 : decode cX6_cell 91 = .ok (.getfield 10, 3) := by decide +kernel
theorem dX6_cell_94 : decode cX6_cell 94 = .ok (.iload_n 1, 1) := by decide +kernel
theorem dX6_cell_95 : decode cX6_cell 95 = .ok (.invokevirtual 149, 3) := by decide +kernel
theorem dX6_cell_98 : decode cX6_cell 98 = .ok (.ireturn, 1) := by decide +kernel
theorem dX6_cell_99 : decode cX6_cell 99 = .ok (.aload_n 0, 1) := by decide +kernel
theorem dX6_cell_100 : decode cX6_cell 100 = .ok (.getfield 10, 3) := by decide +kernel
theorem dX6_cell_103 : decode cX6_cell 103 = .ok (.getfield 152, 3) := by decide +kernel
theorem dX6_cell_106 : decode cX6_cell 106 = .ok (.iload_n 1, 1) := by decide +kernel
theorem dX6_cell_107 : decode cX6_cell 107 = .ok (.invokevirtual 156, 3) := by decide +kernel
theorem dX6_cell_110 : decode cX6_cell 110 = .ok (.ireturn, 1) := by decide +kernel
theorem dX6_cell_111 : decode cX6_cell 111 = .ok (.aload_n 0, 1) := by decide +kernel
theorem dX6_cell_112 : decode cX6_cell 112 = .ok (.getfield 10, 3) := by decide +kernel
theorem dX6_cell_115 : decode cX6_cell 115 = .ok (.getfield 152, 3) := by decide +kernel
theorem dX6_cell_118 : decode cX6_cell 118 = .ok (.iload_n 1, 1) := by decide +kernel
theorem dX6_cell_119 : decode cX6_cell 119 = .ok (.invokevirtual 160, 3) := by decide +kernel
theorem dX6_cell_122 : decode cX6_cell 122 = .ok (.ireturn, 1) := by decide +kernel
theorem dX6_cell_123 : decode cX6_cell 123 = .ok (.aload_n 0, 1) := by decide +kernel
theorem dX6_cell_124 : decode cX6_cell 124 = .ok (.getfield 10, 3) := by decide +kernel
theorem dX6_cell_127 : decode cX6_cell 127 = .ok (.getfield 134, 3) := by decide +kernel
theorem dX6_cell_130 : decode cX6_cell 130 = .ok (.iload_n 1, 1) := by decide +kernel
theorem dX6_cell_131 : decode cX6_cell 131 = .ok (.invokevirtual 163, 3) := by decide +kernel
theorem dX6_cell_134 : decode cX6_cell 134 = .ok (.ireturn, 1) := by decide +kernel
theorem dX6_cell_135 : decode cX6_cell 135 = .ok (.aload_n 0, 1) := by decide +kernel
theorem dX6_cell_136 : decode cX6_cell 136 = .ok (.getfield 10, 3) := by decide +kernel
theorem dX6_cell_139 : decode cX6_cell 139 = .ok (.iload_n 1, 1) := by decide +kernel
theorem dX6_cell_140 : decode cX6_cell 140 = .ok (.invokevirtual 166, 3) := by decide +kernel
theorem dX6_cell_143 : decode cX6_cell 143 = .ok (.ireturn, 1) := by decide +kernel
theorem dX6_cell_144 : decode cX6_cell 144 = .ok (.aload_n 0, 1) := by decide +kernel
theorem dX6_cell_145 : decode cX6_cell 145 = .ok (.getfield 10, 3) := by decide +kernel
theorem dX6_cell_148 : decode cX6_cell 148 = .ok (.iload_n 1, 1) := by decide +kernel
theorem dX6_cell_149 : decode cX6_cell 149 = .ok (.invokevirtual 169, 3) := by decide +kernel
theorem dX6_cell_152 : decode cX6_cell 152 = .ok (.ireturn, 1) := by decide +kernel
theorem dX6_cell_153 : decode cX6_cell 153 = .ok (.bipush (-2), 2) := by decide +kernel
theorem dX6_cell_155 : decode cX6_cell 155 = .ok (.ireturn, 1) := by decide +kernel
theorem dX6_part_0 : decode cX6_part 0 = .ok (.iload_n 1, 1) := by decide +kernel
theorem dX6_part_1 : decode cX6_part 1 = .ok (.invokestatic 73, 3) := by decide +kernel
theorem dX6_part_4 : decode cX6_part 4 = .ok (.ifCond .eq 10, 3) := by decide +kernel
theorem dX6_part_7 : decode cX6_part 7 = .ok (.iload_n 2, 1) := by decide +kernel
theorem dX6_part_8 : decode cX6_part 8 = .ok (.invokestatic 77, 3) := by decide +kernel
theorem dX6_part_11 : decode cX6_part 11 = .ok (.ifCond .ne 5, 3) := by decide +kernel
theorem dX6_part_14 : decode cX6_part 14 = .ok (.iconst (-1), 1) := by decide +kernel
theorem dX6_part_15 : decode cX6_part 15 = .ok (.ireturn, 1) := by decide +kernel
theorem dX6_part_16 : decode cX6_part 16 = .ok (.iload_n 3, 1) := by decide +kernel
theorem dX6_part_17 : decode cX6_part 17 = .ok (.tableswitch 113 0 5 #[39, 49, 62, 75, 93, 106], 39) := by decide +kernel
theorem dX6_part_56 : decode cX6_part 56 = .ok (.aload_n 0, 1) := by decide +kernel
theorem dX6_part_57 : decode cX6_part 57 = .ok (.getfield 10, 3) := by decide +kernel
theorem dX6_part_60 : decode cX6_part 60 = .ok (.iload_n 1, 1) := by decide +kernel
theorem dX6_part_61 : decode cX6_part 61 = .ok (.iload_n 2, 1) := by decide +kernel
theorem dX6_part_62 : decode cX6_part 62 = .ok (.invokevirtual 80, 3) := by decide +kernel
theorem dX6_part_65 : decode cX6_part 65 = .ok (.ireturn, 1) := by decide +kernel
theorem dX6_part_66 : decode cX6_part 66 = .ok (.aload_n 0, 1) := by decide +kernel
theorem dX6_part_67 : decode cX6_part 67 = .ok (.getfield 10, 3) := by decide +kernel
theorem dX6_part_70 : decode cX6_part 70 = .ok (.getfield 134, 3) := by decide +kernel
theorem dX6_part_73 : decode cX6_part 73 = .ok (.iload_n 1, 1) := by decide +kernel
theorem dX6_part_74 : decode cX6_part 74 = .ok (.iload_n 2, 1) := by decide +kernel
theorem dX6_part_75 : decode cX6_part 75 = .ok (.invokevirtual 172, 3) := by decide +kernel
theorem dX6_part_78 : decode cX6_part 78 = .ok (.ireturn, 1) := by decide +kernel
theorem dX6_part_79 : decode cX6_part 79 = .ok (.aload_n 0, 1) := by decide +kernel
theorem dX6_part_80 : decode cX6_part 80 = .ok (.getfield 10, 3) := by decide +kernel
theorem dX6_part_83 : decode cX6_part 83 = .ok (.getfield 134, 3) := by decide +kernel
theorem dX6_part_86 : decode cX6_part 86 = .ok (.iload_n 1, 1) := by decide +kernel
theorem dX6_part_87 : decode cX6_part 87 = .ok (.iload_n 2, 1) := by decide +kernel
theorem dX6_part_88 : decode cX6_part 88 = .ok (.invokevirtual 175, 3) := by decide +kernel
theorem dX6_part_91 : decode cX6_part 91 = .ok (.ireturn, 1) := by decide +kernel
theorem dX6_part_92 : decode cX6_part 92 = .ok (.aload_n 0, 1) := by decide +kernel
theorem dX6_part_93 : decode cX6_part 93 = .ok (.getfield 10, 3) := by decide +kernel
theorem dX6_part_96 : decode cX6_part 96 = .ok (.iload_n 1, 1) := by decide +kernel
theorem dX6_part_97 : decode cX6_part 97 = .ok (.iload_n 2, 1) := by decide +kernel
theorem dX6_part_98 : decode cX6_part 98 = .ok (.invokevirtual 178, 3) := by decide +kernel
theorem dX6_part_101 : decode cX6_part 101 = .ok (.ifCond .eq 7, 3) := by decide +kernel
theorem dX6_part_104 : decode cX6_part 104 = .ok (.iconst 1, 1) := by decide +kernel
theorem dX6_part_105 : decode cX6_part 105 = .ok (.goto 4, 3) := by decide +kernel
theorem dX6_part_108 : decode cX6_part 108 = .ok (.iconst 0, 1) := by decide +kernel
theorem dX6_part_109 : decode cX6_part 109 = .ok (.ireturn, 1) := by decide +kernel
theorem dX6_part_110 : decode cX6_part 110 = .ok (.aload_n 0, 1) := by decide +kernel
theorem dX6_part_111 : decode cX6_part 111 = .ok (.getfield 10, 3) := by decide +kernel
theorem dX6_part_114 : decode cX6_part 114 = .ok (.getfield 152, 3) := by decide +kernel
theorem dX6_part_117 : decode cX6_part 117 = .ok (.iload_n 1, 1) := by decide +kernel
theorem dX6_part_118 : decode cX6_part 118 = .ok (.iload_n 2, 1) := by decide +kernel
theorem dX6_part_119 : decode cX6_part 119 = .ok (.invokevirtual 182, 3) := by decide +kernel
theorem dX6_part_122 : decode cX6_part 122 = .ok (.ireturn, 1) := by decide +kernel
theorem dX6_part_123 : decode cX6_part 123 = .ok (.aload_n 0, 1) := by decide +kernel
theorem dX6_part_124 : decode cX6_part 124 = .ok (.iload_n 1, 1) := by decide +kernel
theorem dX6_part_125 : decode cX6_part 125 = .ok (.iload_n 2, 1) := by decide +kernel
theorem dX6_part_126 : decode cX6_part 126 = .ok (.invokevirtual 185, 3) := by decide +kernel
theorem dX6_part_129 : decode cX6_part 129 = .ok (.ireturn, 1) := by decide +kernel
theorem dX6_part_130 : decode cX6_part 130 = .ok (.bipush (-2), 2) := by decide +kernel
theorem dX6_part_132 : decode cX6_part 132 = .ok (.ireturn, 1) := by decide +kernel
theorem dX6_loan_0 : decode cX6_loan 0 = .ok (.aload_n 0, 1) := by decide +kernel
theorem dX6_loan_1 : decode cX6_loan 1 = .ok (.getfield 10, 3) := by decide +kernel
theorem dX6_loan_4 : decode cX6_loan 4 = .ok (.getfield 134, 3) := by decide +kernel
theorem dX6_loan_7 : decode cX6_loan 7 = .ok (.iload_n 1, 1) := by decide +kernel
theorem dX6_loan_8 : decode cX6_loan 8 = .ok (.invokevirtual 188, 3) := by decide +kernel
theorem dX6_loan_11 : decode cX6_loan 11 = .ok (.istore_n 3, 1) := by decide +kernel
theorem dX6_loan_12 : decode cX6_loan 12 = .ok (.iload_n 3, 1) := by decide +kernel
theorem dX6_loan_13 : decode cX6_loan 13 = .ok (.ifCond .ge 5, 3) := by decide +kernel
theorem dX6_loan_16 : decode cX6_loan 16 = .ok (.iconst (-1), 1) := by decide +kernel
theorem dX6_loan_17 : decode cX6_loan 17 = .ok (.ireturn, 1) := by decide +kernel
theorem dX6_loan_18 : decode cX6_loan 18 = .ok (.iload_n 2, 1) := by decide +kernel
theorem dX6_loan_19 : decode cX6_loan 19 = .ok (.tableswitch 102 0 4 #[33, 46, 59, 72, 85], 33) := by decide +kernel
theorem dX6_loan_52 : decode cX6_loan 52 = .ok (.aload_n 0, 1) := by decide +kernel
theorem dX6_loan_53 : decode cX6_loan 53 = .ok (.getfield 10, 3) := by decide +kernel
theorem dX6_loan_56 : decode cX6_loan 56 = .ok (.getfield 134, 3) := by decide +kernel
theorem dX6_loan_59 : decode cX6_loan 59 = .ok (.getfield 191, 3) := by decide +kernel
theorem dX6_loan_62 : decode cX6_loan 62 = .ok (.iload_n 3, 1) := by decide +kernel
theorem dX6_loan_63 : decode cX6_loan 63 = .ok (.iaload, 1) := by decide +kernel
theorem dX6_loan_64 : decode cX6_loan 64 = .ok (.ireturn, 1) := by decide +kernel
theorem dX6_loan_65 : decode cX6_loan 65 = .ok (.aload_n 0, 1) := by decide +kernel
theorem dX6_loan_66 : decode cX6_loan 66 = .ok (.getfield 10, 3) := by decide +kernel
theorem dX6_loan_69 : decode cX6_loan 69 = .ok (.getfield 134, 3) := by decide +kernel
theorem dX6_loan_72 : decode cX6_loan 72 = .ok (.getfield 194, 3) := by decide +kernel
theorem dX6_loan_75 : decode cX6_loan 75 = .ok (.iload_n 3, 1) := by decide +kernel
theorem dX6_loan_76 : decode cX6_loan 76 = .ok (.iaload, 1) := by decide +kernel
theorem dX6_loan_77 : decode cX6_loan 77 = .ok (.ireturn, 1) := by decide +kernel
theorem dX6_loan_78 : decode cX6_loan 78 = .ok (.aload_n 0, 1) := by decide +kernel
theorem dX6_loan_79 : decode cX6_loan 79 = .ok (.getfield 10, 3) := by decide +kernel
theorem dX6_loan_82 : decode cX6_loan 82 = .ok (.getfield 134, 3) := by decide +kernel
theorem dX6_loan_85 : decode cX6_loan 85 = .ok (.getfield 197, 3) := by decide +kernel
theorem dX6_loan_88 : decode cX6_loan 88 = .ok (.iload_n 3, 1) := by decide +kernel
theorem dX6_loan_89 : decode cX6_loan 89 = .ok (.iaload, 1) := by decide +kernel
theorem dX6_loan_90 : decode cX6_loan 90 = .ok (.ireturn, 1) := by decide +kernel
theorem dX6_loan_91 : decode cX6_loan 91 = .ok (.aload_n 0, 1) := by decide +kernel
theorem dX6_loan_92 : decode cX6_loan 92 = .ok (.getfield 10, 3) := by decide +kernel
theorem dX6_loan_95 : decode cX6_loan 95 = .ok (.getfield 134, 3) := by decide +kernel
theorem dX6_loan_98 : decode cX6_loan 98 = .ok (.getfield 200, 3) := by decide +kernel
theorem dX6_loan_101 : decode cX6_loan 101 = .ok (.iload_n 3, 1) := by decide +kernel
theorem dX6_loan_102 : decode cX6_loan 102 = .ok (.iaload, 1) := by decide +kernel
theorem dX6_loan_103 : decode cX6_loan 103 = .ok (.ireturn, 1) := by decide +kernel
theorem dX6_loan_104 : decode cX6_loan 104 = .ok (.aload_n 0, 1) := by decide +kernel
theorem dX6_loan_105 : decode cX6_loan 105 = .ok (.getfield 10, 3) := by decide +kernel
theorem dX6_loan_108 : decode cX6_loan 108 = .ok (.iload_n 3, 1) := by decide +kernel
theorem dX6_loan_109 : decode cX6_loan 109 = .ok (.invokevirtual 203, 3) := by decide +kernel
theorem dX6_loan_112 : decode cX6_loan 112 = .ok (.ifCond .eq 7, 3) := by decide +kernel
theorem dX6_loan_115 : decode cX6_loan 115 = .ok (.iconst 1, 1) := by decide +kernel
theorem dX6_loan_116 : decode cX6_loan 116 = .ok (.goto 4, 3) := by decide +kernel
theorem dX6_loan_119 : decode cX6_loan 119 = .ok (.iconst 0, 1) := by decide +kernel
theorem dX6_loan_120 : decode cX6_loan 120 = .ok (.ireturn, 1) := by decide +kernel
theorem dX6_loan_121 : decode cX6_loan 121 = .ok (.bipush (-2), 2) := by decide +kernel
theorem dX6_loan_123 : decode cX6_loan 123 = .ok (.ireturn, 1) := by decide +kernel
theorem dX6_reason_0 : decode cX6_reason 0 = .ok (.iload_n 1, 1) := by decide +kernel
theorem dX6_reason_1 : decode cX6_reason 1 = .ok (.invokestatic 73, 3) := by decide +kernel
theorem dX6_reason_4 : decode cX6_reason 4 = .ok (.ifCond .eq 10, 3) := by decide +kernel
theorem dX6_reason_7 : decode cX6_reason 7 = .ok (.iload_n 2, 1) := by decide +kernel
theorem dX6_reason_8 : decode cX6_reason 8 = .ok (.invokestatic 77, 3) := by decide +kernel
theorem dX6_reason_11 : decode cX6_reason 11 = .ok (.ifCond .ne 5, 3) := by decide +kernel
theorem dX6_reason_14 : decode cX6_reason 14 = .ok (.iconst (-1), 1) := by decide +kernel
theorem dX6_reason_15 : decode cX6_reason 15 = .ok (.ireturn, 1) := by decide +kernel
theorem dX6_reason_16 : decode cX6_reason 16 = .ok (.aload_n 0, 1) := by decide +kernel
theorem dX6_reason_17 : decode cX6_reason 17 = .ok (.iload_n 1, 1) := by decide +kernel
theorem dX6_reason_18 : decode cX6_reason 18 = .ok (.iload_n 2, 1) := by decide +kernel
theorem dX6_reason_19 : decode cX6_reason 19 = .ok (.invokevirtual 185, 3) := by decide +kernel
theorem dX6_reason_22 : decode cX6_reason 22 = .ok (.bipush 64, 2) := by decide +kernel
theorem dX6_reason_24 : decode cX6_reason 24 = .ok (.if_icmp .ne 5, 3) := by decide +kernel
theorem dX6_reason_27 : decode cX6_reason 27 = .ok (.iconst 0, 1) := by decide +kernel
theorem dX6_reason_28 : decode cX6_reason 28 = .ok (.ireturn, 1) := by decide +kernel
theorem dX6_reason_29 : decode cX6_reason 29 = .ok (.aload_n 0, 1) := by decide +kernel
theorem dX6_reason_30 : decode cX6_reason 30 = .ok (.getfield 10, 3) := by decide +kernel
theorem dX6_reason_33 : decode cX6_reason 33 = .ok (.iload_n 2, 1) := by decide +kernel
theorem dX6_reason_34 : decode cX6_reason 34 = .ok (.invokevirtual 169, 3) := by decide +kernel
theorem dX6_reason_37 : decode cX6_reason 37 = .ok (.ifCond .le 7, 3) := by decide +kernel
theorem dX6_reason_40 : decode cX6_reason 40 = .ok (.iconst 1, 1) := by decide +kernel
theorem dX6_reason_41 : decode cX6_reason 41 = .ok (.goto 4, 3) := by decide +kernel
theorem dX6_reason_44 : decode cX6_reason 44 = .ok (.iconst 2, 1) := by decide +kernel
theorem dX6_reason_45 : decode cX6_reason 45 = .ok (.ireturn, 1) := by decide +kernel
theorem dX6_chain_0 : decode cX6_chain 0 = .ok (.iload_n 1, 1) := by decide +kernel
theorem dX6_chain_1 : decode cX6_chain 1 = .ok (.invokestatic 77, 3) := by decide +kernel
theorem dX6_chain_4 : decode cX6_chain 4 = .ok (.ifCond .eq 17, 3) := by decide +kernel
theorem dX6_chain_7 : decode cX6_chain 7 = .ok (.aload_n 0, 1) := by decide +kernel
theorem dX6_chain_8 : decode cX6_chain 8 = .ok (.getfield 10, 3) := by decide +kernel
theorem dX6_chain_11 : decode cX6_chain 11 = .ok (.getfield 134, 3) := by decide +kernel
theorem dX6_chain_14 : decode cX6_chain 14 = .ok (.iload_n 1, 1) := by decide +kernel
theorem dX6_chain_15 : decode cX6_chain 15 = .ok (.invokevirtual 206, 3) := by decide +kernel
theorem dX6_chain_18 : decode cX6_chain 18 = .ok (.goto 4, 3) := by decide +kernel
theorem dX6_chain_21 : decode cX6_chain 21 = .ok (.iconst (-1), 1) := by decide +kernel
theorem dX6_chain_22 : decode cX6_chain 22 = .ok (.ireturn, 1) := by decide +kernel
theorem dX6_count_0 : decode cX6_count 0 = .ok (.iload_n 1, 1) := by decide +kernel
theorem dX6_count_1 : decode cX6_count 1 = .ok (.tableswitch 135 0 8 #[51, 62, 73, 81, 92, 100, 111, 119, 127], 51) := by decide +kernel
theorem dX6_count_52 : decode cX6_count 52 = .ok (.aload_n 0, 1) := by decide +kernel
theorem dX6_count_53 : decode cX6_count 53 = .ok (.getfield 10, 3) := by decide +kernel
theorem dX6_count_56 : decode cX6_count 56 = .ok (.getfield 134, 3) := by decide +kernel
theorem dX6_count_59 : decode cX6_count 59 = .ok (.getfield 138, 3) := by decide +kernel
theorem dX6_count_62 : decode cX6_count 62 = .ok (.ireturn, 1) := by decide +kernel
theorem dX6_count_63 : decode cX6_count 63 = .ok (.aload_n 0, 1) := by decide +kernel
theorem dX6_count_64 : decode cX6_count 64 = .ok (.getfield 10, 3) := by decide +kernel
theorem dX6_count_67 : decode cX6_count 67 = .ok (.getfield 134, 3) := by decide +kernel
theorem dX6_count_70 : decode cX6_count 70 = .ok (.getfield 209, 3) := by decide +kernel
theorem dX6_count_73 : decode cX6_count 73 = .ok (.ireturn, 1) := by decide +kernel
theorem dX6_count_74 : decode cX6_count 74 = .ok (.aload_n 0, 1) := by decide +kernel
theorem dX6_count_75 : decode cX6_count 75 = .ok (.getfield 10, 3) := by decide +kernel
theorem dX6_count_78 : decode cX6_count 78 = .ok (.invokevirtual 212, 3) := by decide +kernel
theorem dX6_count_81 : decode cX6_count 81 = .ok (.ireturn, 1) := by decide +kernel
theorem dX6_count_82 : decode cX6_count 82 = .ok (.aload_n 0, 1) := by decide +kernel
theorem dX6_count_83 : decode cX6_count 83 = .ok (.getfield 10, 3) := by decide +kernel
theorem dX6_count_86 : decode cX6_count 86 = .ok (.getfield 152, 3) := by decide +kernel
theorem dX6_count_89 : decode cX6_count 89 = .ok (.invokevirtual 215, 3) := by decide +kernel
theorem dX6_count_92 : decode cX6_count 92 = .ok (.ireturn, 1) := by decide +kernel
theorem dX6_count_93 : decode cX6_count 93 = .ok (.aload_n 0, 1) := by decide +kernel
theorem dX6_count_94 : decode cX6_count 94 = .ok (.getfield 10, 3) := by decide +kernel
theorem dX6_count_97 : decode cX6_count 97 = .ok (.getfield 218, 3) := by decide +kernel
theorem dX6_count_100 : decode cX6_count 100 = .ok (.ireturn, 1) := by decide +kernel
theorem dX6_count_101 : decode cX6_count 101 = .ok (.aload_n 0, 1) := by decide +kernel
theorem dX6_count_102 : decode cX6_count 102 = .ok (.getfield 10, 3) := by decide +kernel
theorem dX6_count_105 : decode cX6_count 105 = .ok (.getfield 134, 3) := by decide +kernel
theorem dX6_count_108 : decode cX6_count 108 = .ok (.getfield 221, 3) := by decide +kernel
theorem dX6_count_111 : decode cX6_count 111 = .ok (.ireturn, 1) := by decide +kernel
theorem dX6_count_112 : decode cX6_count 112 = .ok (.aload_n 0, 1) := by decide +kernel
theorem dX6_count_113 : decode cX6_count 113 = .ok (.getfield 10, 3) := by decide +kernel
theorem dX6_count_116 : decode cX6_count 116 = .ok (.invokevirtual 224, 3) := by decide +kernel
theorem dX6_count_119 : decode cX6_count 119 = .ok (.ireturn, 1) := by decide +kernel
theorem dX6_count_120 : decode cX6_count 120 = .ok (.aload_n 0, 1) := by decide +kernel
theorem dX6_count_121 : decode cX6_count 121 = .ok (.getfield 25, 3) := by decide +kernel
theorem dX6_count_124 : decode cX6_count 124 = .ok (.invokevirtual 128, 3) := by decide +kernel
theorem dX6_count_127 : decode cX6_count 127 = .ok (.ireturn, 1) := by decide +kernel
theorem dX6_count_128 : decode cX6_count 128 = .ok (.aload_n 0, 1) := by decide +kernel
theorem dX6_count_129 : decode cX6_count 129 = .ok (.getfield 39, 3) := by decide +kernel
theorem dX6_count_132 : decode cX6_count 132 = .ok (.invokevirtual 227, 3) := by decide +kernel
theorem dX6_count_135 : decode cX6_count 135 = .ok (.ireturn, 1) := by decide +kernel
theorem dX6_count_136 : decode cX6_count 136 = .ok (.bipush (-2), 2) := by decide +kernel
theorem dX6_count_138 : decode cX6_count 138 = .ok (.ireturn, 1) := by decide +kernel
theorem dX6_close_0 : decode cX6_close 0 = .ok (.iload_n 1, 1) := by decide +kernel
theorem dX6_close_1 : decode cX6_close 1 = .ok (.ifCond .ge 20, 3) := by decide +kernel
theorem dX6_close_4 : decode cX6_close 4 = .ok (.aload_n 0, 1) := by decide +kernel
theorem dX6_close_5 : decode cX6_close 5 = .ok (.getfield 10, 3) := by decide +kernel
theorem dX6_close_8 : decode cX6_close 8 = .ok (.aload_n 0, 1) := by decide +kernel
theorem dX6_close_9 : decode cX6_close 9 = .ok (.getfield 25, 3) := by decide +kernel
theorem dX6_close_12 : decode cX6_close 12 = .ok (.invokevirtual 228, 3) := by decide +kernel
theorem dX6_close_15 : decode cX6_close 15 = .ok (.invokevirtual 125, 3) := by decide +kernel
theorem dX6_close_18 : decode cX6_close 18 = .ok (.goto 10, 3) := by decide +kernel
theorem dX6_close_21 : decode cX6_close 21 = .ok (.aload_n 0, 1) := by decide +kernel
theorem dX6_close_22 : decode cX6_close 22 = .ok (.getfield 25, 3) := by decide +kernel
theorem dX6_close_25 : decode cX6_close 25 = .ok (.invokevirtual 231, 3) := by decide +kernel
theorem dX6_close_28 : decode cX6_close 28 = .ok (.iload_n 1, 1) := by decide +kernel
theorem dX6_close_29 : decode cX6_close 29 = .ok (.ireturn, 1) := by decide +kernel
theorem dX6_gatherCell_0 : decode cX6_gatherCell 0 = .ok (.iload_n 1, 1) := by decide +kernel
theorem dX6_gatherCell_1 : decode cX6_gatherCell 1 = .ok (.invokestatic 73, 3) := by decide +kernel
theorem dX6_gatherCell_4 : decode cX6_gatherCell 4 = .ok (.ifCond .eq 10, 3) := by decide +kernel
theorem dX6_gatherCell_7 : decode cX6_gatherCell 7 = .ok (.iload_n 2, 1) := by decide +kernel
theorem dX6_gatherCell_8 : decode cX6_gatherCell 8 = .ok (.invokestatic 77, 3) := by decide +kernel
theorem dX6_gatherCell_11 : decode cX6_gatherCell 11 = .ok (.ifCond .ne 5, 3) := by decide +kernel
theorem dX6_gatherCell_14 : decode cX6_gatherCell 14 = .ok (.iconst (-1), 1) := by decide +kernel
theorem dX6_gatherCell_15 : decode cX6_gatherCell 15 = .ok (.ireturn, 1) := by decide +kernel
theorem dX6_gatherCell_16 : decode cX6_gatherCell 16 = .ok (.aload_n 0, 1) := by decide +kernel
theorem dX6_gatherCell_17 : decode cX6_gatherCell 17 = .ok (.getfield 32, 3) := by decide +kernel
theorem dX6_gatherCell_20 : decode cX6_gatherCell 20 = .ok (.aload_n 0, 1) := by decide +kernel
theorem dX6_gatherCell_21 : decode cX6_gatherCell 21 = .ok (.getfield 10, 3) := by decide +kernel
theorem dX6_gatherCell_24 : decode cX6_gatherCell 24 = .ok (.iload_n 1, 1) := by decide +kernel
theorem dX6_gatherCell_25 : decode cX6_gatherCell 25 = .ok (.iload_n 2, 1) := by decide +kernel
theorem dX6_gatherCell_26 : decode cX6_gatherCell 26 = .ok (.invokevirtual 234, 3) := by decide +kernel
theorem dX6_gatherCell_29 : decode cX6_gatherCell 29 = .ok (.istore_n 3, 1) := by decide +kernel
theorem dX6_gatherCell_30 : decode cX6_gatherCell 30 = .ok (.iload_n 3, 1) := by decide +kernel
theorem dX6_gatherCell_31 : decode cX6_gatherCell 31 = .ok (.ifCond .ne 8, 3) := by decide +kernel
theorem dX6_gatherCell_34 : decode cX6_gatherCell 34 = .ok (.bipush (-5), 2) := by decide +kernel
theorem dX6_gatherCell_36 : decode cX6_gatherCell 36 = .ok (.goto 12, 3) := by decide +kernel
theorem dX6_gatherCell_39 : decode cX6_gatherCell 39 = .ok (.aload_n 0, 1) := by decide +kernel
theorem dX6_gatherCell_40 : decode cX6_gatherCell 40 = .ok (.getfield 10, 3) := by decide +kernel
theorem dX6_gatherCell_43 : decode cX6_gatherCell 43 = .ok (.iload_n 1, 1) := by decide +kernel
theorem dX6_gatherCell_44 : decode cX6_gatherCell 44 = .ok (.iload_n 2, 1) := by decide +kernel
theorem dX6_gatherCell_45 : decode cX6_gatherCell 45 = .ok (.invokevirtual 80, 3) := by decide +kernel
theorem dX6_gatherCell_48 : decode cX6_gatherCell 48 = .ok (.ireturn, 1) := by decide +kernel
theorem dX6_heldAfterGathering_0 : decode cX6_heldAfterGathering 0 = .ok (.aload_n 0, 1) := by decide +kernel
theorem dX6_heldAfterGathering_1 : decode cX6_heldAfterGathering 1 = .ok (.getfield 16, 3) := by decide +kernel
theorem dX6_heldAfterGathering_4 : decode cX6_heldAfterGathering 4 = .ok (.aload_n 0, 1) := by decide +kernel
theorem dX6_heldAfterGathering_5 : decode cX6_heldAfterGathering 5 = .ok (.getfield 10, 3) := by decide +kernel
theorem dX6_heldAfterGathering_8 : decode cX6_heldAfterGathering 8 = .ok (.invokevirtual 125, 3) := by decide +kernel
theorem dX6_heldAfterGathering_11 : decode cX6_heldAfterGathering 11 = .ok (.aload_n 0, 1) := by decide +kernel
theorem dX6_heldAfterGathering_12 : decode cX6_heldAfterGathering 12 = .ok (.getfield 32, 3) := by decide +kernel
theorem dX6_heldAfterGathering_15 : decode cX6_heldAfterGathering 15 = .ok (.aload_n 0, 1) := by decide +kernel
theorem dX6_heldAfterGathering_16 : decode cX6_heldAfterGathering 16 = .ok (.getfield 16, 3) := by decide +kernel
theorem dX6_heldAfterGathering_19 : decode cX6_heldAfterGathering 19 = .ok (.iload_n 1, 1) := by decide +kernel
theorem dX6_heldAfterGathering_20 : decode cX6_heldAfterGathering 20 = .ok (.iload_n 2, 1) := by decide +kernel
theorem dX6_heldAfterGathering_21 : decode cX6_heldAfterGathering 21 = .ok (.invokevirtual 234, 3) := by decide +kernel
theorem dX6_heldAfterGathering_24 : decode cX6_heldAfterGathering 24 = .ok (.pop, 1) := by decide +kernel
theorem dX6_heldAfterGathering_25 : decode cX6_heldAfterGathering 25 = .ok (.aload_n 0, 1) := by decide +kernel
theorem dX6_heldAfterGathering_26 : decode cX6_heldAfterGathering 26 = .ok (.getfield 16, 3) := by decide +kernel
theorem dX6_heldAfterGathering_29 : decode cX6_heldAfterGathering 29 = .ok (.iload_n 1, 1) := by decide +kernel
theorem dX6_heldAfterGathering_30 : decode cX6_heldAfterGathering 30 = .ok (.iload_n 2, 1) := by decide +kernel
theorem dX6_heldAfterGathering_31 : decode cX6_heldAfterGathering 31 = .ok (.invokevirtual 80, 3) := by decide +kernel
theorem dX6_heldAfterGathering_34 : decode cX6_heldAfterGathering 34 = .ok (.ireturn, 1) := by decide +kernel
theorem dX6_serveClaims_0 : decode cX6_serveClaims 0 = .ok (.iload_n 1, 1) := by decide +kernel
theorem dX6_serveClaims_1 : decode cX6_serveClaims 1 = .ok (.invokestatic 77, 3) := by decide +kernel
theorem dX6_serveClaims_4 : decode cX6_serveClaims 4 = .ok (.ifCond .ne 5, 3) := by decide +kernel
theorem dX6_serveClaims_7 : decode cX6_serveClaims 7 = .ok (.iconst (-1), 1) := by decide +kernel
theorem dX6_serveClaims_8 : decode cX6_serveClaims 8 = .ok (.ireturn, 1) := by decide +kernel
theorem dX6_serveClaims_9 : decode cX6_serveClaims 9 = .ok (.aload_n 0, 1) := by decide +kernel
theorem dX6_serveClaims_10 : decode cX6_serveClaims 10 = .ok (.getfield 10, 3) := by decide +kernel
theorem dX6_serveClaims_13 : decode cX6_serveClaims 13 = .ok (.getfield 152, 3) := by decide +kernel
theorem dX6_serveClaims_16 : decode cX6_serveClaims 16 = .ok (.iload_n 1, 1) := by decide +kernel
theorem dX6_serveClaims_17 : decode cX6_serveClaims 17 = .ok (.invokevirtual 156, 3) := by decide +kernel
theorem dX6_serveClaims_20 : decode cX6_serveClaims 20 = .ok (.ifCond .ne 6, 3) := by decide +kernel
theorem dX6_serveClaims_23 : decode cX6_serveClaims 23 = .ok (.bipush (-4), 2) := by decide +kernel
theorem dX6_serveClaims_25 : decode cX6_serveClaims 25 = .ok (.ireturn, 1) := by decide +kernel
theorem dX6_serveClaims_26 : decode cX6_serveClaims 26 = .ok (.aload_n 0, 1) := by decide +kernel
theorem dX6_serveClaims_27 : decode cX6_serveClaims 27 = .ok (.getfield 10, 3) := by decide +kernel
theorem dX6_serveClaims_30 : decode cX6_serveClaims 30 = .ok (.getfield 146, 3) := by decide +kernel
theorem dX6_serveClaims_33 : decode cX6_serveClaims 33 = .ok (.iload_n 1, 1) := by decide +kernel
theorem dX6_serveClaims_34 : decode cX6_serveClaims 34 = .ok (.iaload, 1) := by decide +kernel
theorem dX6_serveClaims_35 : decode cX6_serveClaims 35 = .ok (.istore_n 2, 1) := by decide +kernel
theorem dX6_serveClaims_36 : decode cX6_serveClaims 36 = .ok (.aload_n 0, 1) := by decide +kernel
theorem dX6_serveClaims_37 : decode cX6_serveClaims 37 = .ok (.getfield 32, 3) := by decide +kernel
theorem dX6_serveClaims_40 : decode cX6_serveClaims 40 = .ok (.aload_n 0, 1) := by decide +kernel
theorem dX6_serveClaims_41 : decode cX6_serveClaims 41 = .ok (.getfield 10, 3) := by decide +kernel
theorem dX6_serveClaims_44 : decode cX6_serveClaims 44 = .ok (.iload_n 2, 1) := by decide +kernel
theorem dX6_serveClaims_45 : decode cX6_serveClaims 45 = .ok (.iload_n 1, 1) := by decide +kernel
theorem dX6_serveClaims_46 : decode cX6_serveClaims 46 = .ok (.invokevirtual 234, 3) := by decide +kernel
theorem dX6_serveClaims_49 : decode cX6_serveClaims 49 = .ok (.istore_n 3, 1) := by decide +kernel
theorem dX6_serveClaims_50 : decode cX6_serveClaims 50 = .ok (.aload_n 0, 1) := by decide +kernel
theorem dX6_serveClaims_51 : decode cX6_serveClaims 51 = .ok (.getfield 10, 3) := by decide +kernel
theorem dX6_serveClaims_54 : decode cX6_serveClaims 54 = .ok (.iload_n 2, 1) := by decide +kernel
theorem dX6_serveClaims_55 : decode cX6_serveClaims 55 = .ok (.iload_n 1, 1) := by decide +kernel
theorem dX6_serveClaims_56 : decode cX6_serveClaims 56 = .ok (.invokevirtual 80, 3) := by decide +kernel
theorem dX6_serveClaims_59 : decode cX6_serveClaims 59 = .ok (.bipush 64, 2) := by decide +kernel
theorem dX6_serveClaims_61 : decode cX6_serveClaims 61 = .ok (.if_icmp .ne 24, 3) := by decide +kernel
theorem dX6_serveClaims_64 : decode cX6_serveClaims 64 = .ok (.aload_n 0, 1) := by decide +kernel
theorem dX6_serveClaims_65 : decode cX6_serveClaims 65 = .ok (.getfield 10, 3) := by decide +kernel
theorem dX6_serveClaims_68 : decode cX6_serveClaims 68 = .ok (.iload_n 2, 1) := by decide +kernel
theorem dX6_serveClaims_69 : decode cX6_serveClaims 69 = .ok (.iload_n 1, 1) := by decide +kernel
theorem dX6_serveClaims_70 : decode cX6_serveClaims 70 = .ok (.invokevirtual 178, 3) := by decide +kernel
theorem dX6_serveClaims_73 : decode cX6_serveClaims 73 = .ok (.ifCond .ne 12, 3) := by decide +kernel
theorem dX6_serveClaims_76 : decode cX6_serveClaims 76 = .ok (.aload_n 0, 1) := by decide +kernel
theorem dX6_serveClaims_77 : decode cX6_serveClaims 77 = .ok (.getfield 10, 3) := by decide +kernel
theorem dX6_serveClaims_80 : decode cX6_serveClaims 80 = .ok (.iload_n 1, 1) := by decide +kernel
theorem dX6_serveClaims_81 : decode cX6_serveClaims 81 = .ok (.invokevirtual 238, 3) := by decide +kernel
theorem dX6_serveClaims_84 : decode cX6_serveClaims 84 = .ok (.ireturn, 1) := by decide +kernel
theorem dX6_serveClaims_85 : decode cX6_serveClaims 85 = .ok (.iload_n 3, 1) := by decide +kernel
theorem dX6_serveClaims_86 : decode cX6_serveClaims 86 = .ok (.ifCond .ne 8, 3) := by decide +kernel
theorem dX6_serveClaims_89 : decode cX6_serveClaims 89 = .ok (.bipush (-5), 2) := by decide +kernel
theorem dX6_serveClaims_91 : decode cX6_serveClaims 91 = .ok (.goto 5, 3) := by decide +kernel
theorem dX6_serveClaims_94 : decode cX6_serveClaims 94 = .ok (.bipush 9, 2) := by decide +kernel
theorem dX6_serveClaims_96 : decode cX6_serveClaims 96 = .ok (.ireturn, 1) := by decide +kernel
theorem dX6_performActs_0 : decode cX6_performActs 0 = .ok (.iconst 0, 1) := by decide +kernel
theorem dX6_performActs_1 : decode cX6_performActs 1 = .ok (.istore_n 1, 1) := by decide +kernel
theorem dX6_performActs_2 : decode cX6_performActs 2 = .ok (.iload_n 1, 1) := by decide +kernel
theorem dX6_performActs_3 : decode cX6_performActs 3 = .ok (.aload_n 0, 1) := by decide +kernel
theorem dX6_performActs_4 : decode cX6_performActs 4 = .ok (.getfield 39, 3) := by decide +kernel
theorem dX6_performActs_7 : decode cX6_performActs 7 = .ok (.getfield 241, 3) := by decide +kernel
theorem dX6_performActs_10 : decode cX6_performActs 10 = .ok (.if_icmp .ge 45, 3) := by decide +kernel
theorem dX6_performActs_13 : decode cX6_performActs 13 = .ok (.aload_n 0, 1) := by decide +kernel
theorem dX6_performActs_14 : decode cX6_performActs 14 = .ok (.iload_n 1, 1) := by decide +kernel
theorem dX6_performActs_15 : decode cX6_performActs 15 = .ok (.iconst 5, 1) := by decide +kernel
theorem dX6_performActs_16 : decode cX6_performActs 16 = .ok (.imul, 1) := by decide +kernel
theorem dX6_performActs_17 : decode cX6_performActs 17 = .ok (.invokevirtual 244, 3) := by decide +kernel
theorem dX6_performActs_20 : decode cX6_performActs 20 = .ok (.istore_n 2, 1) := by decide +kernel
theorem dX6_performActs_21 : decode cX6_performActs 21 = .ok (.iload_n 2, 1) := by decide +kernel
theorem dX6_performActs_22 : decode cX6_performActs 22 = .ok (.ifCond .ge 27, 3) := by decide +kernel
theorem dX6_performActs_25 : decode cX6_performActs 25 = .ok (.iload_n 2, 1) := by decide +kernel
theorem dX6_performActs_26 : decode cX6_performActs 26 = .ok (.bipush (-5), 2) := by decide +kernel
theorem dX6_performActs_28 : decode cX6_performActs 28 = .ok (.if_icmp .eq 21, 3) := by decide +kernel
theorem dX6_performActs_31 : decode cX6_performActs 31 = .ok (.aload_n 0, 1) := by decide +kernel
theorem dX6_performActs_32 : decode cX6_performActs 32 = .ok (.iconst 1, 1) := by decide +kernel
theorem dX6_performActs_33 : decode cX6_performActs 33 = .ok (.putfield 110, 3) := by decide +kernel
theorem dX6_performActs_36 : decode cX6_performActs 36 = .ok (.aload_n 0, 1) := by decide +kernel
theorem dX6_performActs_37 : decode cX6_performActs 37 = .ok (.iload_n 1, 1) := by decide +kernel
theorem dX6_performActs_38 : decode cX6_performActs 38 = .ok (.putfield 114, 3) := by decide +kernel
theorem dX6_performActs_41 : decode cX6_performActs 41 = .ok (.aload_n 0, 1) := by decide +kernel
theorem dX6_performActs_42 : decode cX6_performActs 42 = .ok (.iload_n 2, 1) := by decide +kernel
theorem dX6_performActs_43 : decode cX6_performActs 43 = .ok (.putfield 118, 3) := by decide +kernel
theorem dX6_performActs_46 : decode cX6_performActs 46 = .ok (.bipush (-4), 2) := by decide +kernel
theorem dX6_performActs_48 : decode cX6_performActs 48 = .ok (.ireturn, 1) := by decide +kernel
theorem dX6_performActs_49 : decode cX6_performActs 49 = .ok (.iinc 1 1, 3) := by decide +kernel
theorem dX6_performActs_52 : decode cX6_performActs 52 = .ok (.goto (-50), 3) := by decide +kernel
theorem dX6_performActs_55 : decode cX6_performActs 55 = .ok (.aload_n 0, 1) := by decide +kernel
theorem dX6_performActs_56 : decode cX6_performActs 56 = .ok (.getfield 39, 3) := by decide +kernel
theorem dX6_performActs_59 : decode cX6_performActs 59 = .ok (.getfield 241, 3) := by decide +kernel
theorem dX6_performActs_62 : decode cX6_performActs 62 = .ok (.ireturn, 1) := by decide +kernel
theorem dX6_performAct_0 : decode cX6_performAct 0 = .ok (.aload_n 0, 1) := by decide +kernel
theorem dX6_performAct_1 : decode cX6_performAct 1 = .ok (.getfield 39, 3) := by decide +kernel
theorem dX6_performAct_4 : decode cX6_performAct 4 = .ok (.getfield 247, 3) := by decide +kernel
theorem dX6_performAct_7 : decode cX6_performAct 7 = .ok (.astore_n 2, 1) := by decide +kernel
theorem dX6_performAct_8 : decode cX6_performAct 8 = .ok (.aload_n 2, 1) := by decide +kernel
theorem dX6_performAct_9 : decode cX6_performAct 9 = .ok (.iload_n 1, 1) := by decide +kernel
theorem dX6_performAct_10 : decode cX6_performAct 10 = .ok (.iaload, 1) := by decide +kernel
theorem dX6_performAct_11 : decode cX6_performAct 11 = .ok (.lookupswitch 120 #[(98, 69), (103, 105), (108, 41), (119, 82)], 41) := by decide +kernel
theorem dX6_performAct_52 : decode cX6_performAct 52 = .ok (.aload_n 0, 1) := by decide +kernel
theorem dX6_performAct_53 : decode cX6_performAct 53 = .ok (.getfield 10, 3) := by decide +kernel
theorem dX6_performAct_56 : decode cX6_performAct 56 = .ok (.aload_n 2, 1) := by decide +kernel
theorem dX6_performAct_57 : decode cX6_performAct 57 = .ok (.iload_n 1, 1) := by decide +kernel
theorem dX6_performAct_58 : decode cX6_performAct 58 = .ok (.iconst 1, 1) := by decide +kernel
theorem dX6_performAct_59 : decode cX6_performAct 59 = .ok (.iadd, 1) := by decide +kernel
theorem dX6_performAct_60 : decode cX6_performAct 60 = .ok (.iaload, 1) := by decide +kernel
theorem dX6_performAct_61 : decode cX6_performAct 61 = .ok (.aload_n 2, 1) := by decide +kernel
theorem dX6_performAct_62 : decode cX6_performAct 62 = .ok (.iload_n 1, 1) := by decide +kernel
theorem dX6_performAct_63 : decode cX6_performAct 63 = .ok (.iconst 2, 1) := by decide +kernel
theorem dX6_performAct_64 : decode cX6_performAct 64 = .ok (.iadd, 1) := by decide +kernel
theorem dX6_performAct_65 : decode cX6_performAct 65 = .ok (.iaload, 1) := by decide +kernel
theorem dX6_performAct_66 : decode cX6_performAct 66 = .ok (.aload_n 2, 1) := by decide +kernel
theorem dX6_performAct_67 : decode cX6_performAct 67 = .ok (.iload_n 1, 1) := by decide +kernel
theorem dX6_performAct_68 : decode cX6_performAct 68 = .ok (.iconst 3, 1) := by decide +kernel
theorem dX6_performAct_69 : decode cX6_performAct 69 = .ok (.iadd, 1) := by decide +kernel
theorem dX6_performAct_70 : decode cX6_performAct 70 = .ok (.iaload, 1) := by decide +kernel
theorem dX6_performAct_71 : decode cX6_performAct 71 = .ok (.aload_n 2, 1) := by decide +kernel
theorem dX6_performAct_72 : decode cX6_performAct 72 = .ok (.iload_n 1, 1) := by decide +kernel
theorem dX6_performAct_73 : decode cX6_performAct 73 = .ok (.iconst 4, 1) := by decide +kernel
theorem dX6_performAct_74 : decode cX6_performAct 74 = .ok (.iadd, 1) := by decide +kernel
theorem dX6_performAct_75 : decode cX6_performAct 75 = .ok (.iaload, 1) := by decide +kernel
theorem dX6_performAct_76 : decode cX6_performAct 76 = .ok (.invokevirtual 47, 3) := by decide +kernel
theorem dX6_performAct_79 : decode cX6_performAct 79 = .ok (.ireturn, 1) := by decide +kernel
theorem dX6_performAct_80 : decode cX6_performAct 80 = .ok (.aload_n 0, 1) := by decide +kernel
theorem dX6_performAct_81 : decode cX6_performAct 81 = .ok (.getfield 10, 3) := by decide +kernel
theorem dX6_performAct_84 : decode cX6_performAct 84 = .ok (.aload_n 2, 1) := by decide +kernel
theorem dX6_performAct_85 : decode cX6_performAct 85 = .ok (.iload_n 1, 1) := by decide +kernel
theorem dX6_performAct_86 : decode cX6_performAct 86 = .ok (.iconst 1, 1) := by decide +kernel
theorem dX6_performAct_87 : decode cX6_performAct 87 = .ok (.iadd, 1) := by decide +kernel
theorem dX6_performAct_88 : decode cX6_performAct 88 = .ok (.iaload, 1) := by decide +kernel
theorem dX6_performAct_89 : decode cX6_performAct 89 = .ok (.invokevirtual 59, 3) := by decide +kernel
theorem dX6_performAct_92 : decode cX6_performAct 92 = .ok (.ireturn, 1) := by decide +kernel
theorem dX6_performAct_93 : decode cX6_performAct 93 = .ok (.aload_n 0, 1) := by decide +kernel
theorem dX6_performAct_94 : decode cX6_performAct 94 = .ok (.getfield 10, 3) := by decide +kernel
theorem dX6_performAct_97 : decode cX6_performAct 97 = .ok (.aload_n 2, 1) := by decide +kernel
theorem dX6_performAct_98 : decode cX6_performAct 98 = .ok (.iload_n 1, 1) := by decide +kernel
theorem dX6_performAct_99 : decode cX6_performAct 99 = .ok (.iconst 1, 1) := by decide +kernel
theorem dX6_performAct_100 : decode cX6_performAct 100 = .ok (.iadd, 1) := by decide +kernel
theorem dX6_performAct_101 : decode cX6_performAct 101 = .ok (.iaload, 1) := by decide +kernel
theorem dX6_performAct_102 : decode cX6_performAct 102 = .ok (.aload_n 2, 1) := by decide +kernel
theorem dX6_performAct_103 : decode cX6_performAct 103 = .ok (.iload_n 1, 1) := by decide +kernel
theorem dX6_performAct_104 : decode cX6_performAct 104 = .ok (.iconst 2, 1) := by decide +kernel
theorem dX6_performAct_105 : decode cX6_performAct 105 = .ok (.iadd, 1) := by decide +kernel
theorem dX6_performAct_106 : decode cX6_performAct 106 = .ok (.iaload, 1) := by decide +kernel
theorem dX6_performAct_107 : decode cX6_performAct 107 = .ok (.aload_n 2, 1) := by decide +kernel
theorem dX6_performAct_108 : decode cX6_performAct 108 = .ok (.iload_n 1, 1) := by decide +kernel
theorem dX6_performAct_109 : decode cX6_performAct 109 = .ok (.iconst 3, 1) := by decide +kernel
theorem dX6_performAct_110 : decode cX6_performAct 110 = .ok (.iadd, 1) := by decide +kernel
theorem dX6_performAct_111 : decode cX6_performAct 111 = .ok (.iaload, 1) := by decide +kernel
theorem dX6_performAct_112 : decode cX6_performAct 112 = .ok (.invokevirtual 70, 3) := by decide +kernel
theorem dX6_performAct_115 : decode cX6_performAct 115 = .ok (.ireturn, 1) := by decide +kernel
theorem dX6_performAct_116 : decode cX6_performAct 116 = .ok (.aload_n 0, 1) := by decide +kernel
theorem dX6_performAct_117 : decode cX6_performAct 117 = .ok (.aload_n 2, 1) := by decide +kernel
theorem dX6_performAct_118 : decode cX6_performAct 118 = .ok (.iload_n 1, 1) := by decide +kernel
theorem dX6_performAct_119 : decode cX6_performAct 119 = .ok (.iconst 1, 1) := by decide +kernel
theorem dX6_performAct_120 : decode cX6_performAct 120 = .ok (.iadd, 1) := by decide +kernel
theorem dX6_performAct_121 : decode cX6_performAct 121 = .ok (.iaload, 1) := by decide +kernel
theorem dX6_performAct_122 : decode cX6_performAct 122 = .ok (.aload_n 2, 1) := by decide +kernel
theorem dX6_performAct_123 : decode cX6_performAct 123 = .ok (.iload_n 1, 1) := by decide +kernel
theorem dX6_performAct_124 : decode cX6_performAct 124 = .ok (.iconst 2, 1) := by decide +kernel
theorem dX6_performAct_125 : decode cX6_performAct 125 = .ok (.iadd, 1) := by decide +kernel
theorem dX6_performAct_126 : decode cX6_performAct 126 = .ok (.iaload, 1) := by decide +kernel
theorem dX6_performAct_127 : decode cX6_performAct 127 = .ok (.invokevirtual 62, 3) := by decide +kernel
theorem dX6_performAct_130 : decode cX6_performAct 130 = .ok (.ireturn, 1) := by decide +kernel
theorem dX6_performAct_131 : decode cX6_performAct 131 = .ok (.bipush (-5), 2) := by decide +kernel
theorem dX6_performAct_133 : decode cX6_performAct 133 = .ok (.ireturn, 1) := by decide +kernel
theorem dX6_isAgent_0 : decode cX6_isAgent 0 = .ok (.iload_n 0, 1) := by decide +kernel
theorem dX6_isAgent_1 : decode cX6_isAgent 1 = .ok (.ifCond .lt 13, 3) := by decide +kernel
theorem dX6_isAgent_4 : decode cX6_isAgent 4 = .ok (.iload_n 0, 1) := by decide +kernel
theorem dX6_isAgent_5 : decode cX6_isAgent 5 = .ok (.bipush 6, 2) := by decide +kernel
theorem dX6_isAgent_7 : decode cX6_isAgent 7 = .ok (.if_icmp .ge 7, 3) := by decide +kernel
theorem dX6_isAgent_10 : decode cX6_isAgent 10 = .ok (.iconst 1, 1) := by decide +kernel
theorem dX6_isAgent_11 : decode cX6_isAgent 11 = .ok (.goto 4, 3) := by decide +kernel
theorem dX6_isAgent_14 : decode cX6_isAgent 14 = .ok (.iconst 0, 1) := by decide +kernel
theorem dX6_isAgent_15 : decode cX6_isAgent 15 = .ok (.ireturn, 1) := by decide +kernel
theorem dX6_isCell_0 : decode cX6_isCell 0 = .ok (.iload_n 0, 1) := by decide +kernel
theorem dX6_isCell_1 : decode cX6_isCell 1 = .ok (.ifCond .lt 13, 3) := by decide +kernel
theorem dX6_isCell_4 : decode cX6_isCell 4 = .ok (.iload_n 0, 1) := by decide +kernel
theorem dX6_isCell_5 : decode cX6_isCell 5 = .ok (.bipush 6, 2) := by decide +kernel
theorem dX6_isCell_7 : decode cX6_isCell 7 = .ok (.if_icmp .ge 7, 3) := by decide +kernel
theorem dX6_isCell_10 : decode cX6_isCell 10 = .ok (.iconst 1, 1) := by decide +kernel
theorem dX6_isCell_11 : decode cX6_isCell 11 = .ok (.goto 4, 3) := by decide +kernel
theorem dX6_isCell_14 : decode cX6_isCell 14 = .ok (.iconst 0, 1) := by decide +kernel
theorem dX6_isCell_15 : decode cX6_isCell 15 = .ok (.ireturn, 1) := by decide +kernel
theorem dX7_init_0 : decode cX7_init 0 = .ok (.aload_n 0, 1) := by decide +kernel
theorem dX7_init_1 : decode cX7_init 1 = .ok (.invokespecial 1, 3) := by decide +kernel
theorem dX7_init_4 : decode cX7_init 4 = .ok (.aload_n 0, 1) := by decide +kernel
theorem dX7_init_5 : decode cX7_init 5 = .ok (.sipush 336, 3) := by decide +kernel
theorem dX7_init_8 : decode cX7_init 8 = .ok (.newarray .int, 2) := by decide +kernel
theorem dX7_init_10 : decode cX7_init 10 = .ok (.putfield 7, 3) := by decide +kernel
theorem dX7_init_13 : decode cX7_init 13 = .ok (.aload_n 0, 1) := by decide +kernel
theorem dX7_init_14 : decode cX7_init 14 = .ok (.sipush 336, 3) := by decide +kernel
theorem dX7_init_17 : decode cX7_init 17 = .ok (.newarray .int, 2) := by decide +kernel
theorem dX7_init_19 : decode cX7_init 19 = .ok (.putfield 13, 3) := by decide +kernel
theorem dX7_init_22 : decode cX7_init 22 = .ok (.aload_n 0, 1) := by decide +kernel
theorem dX7_init_23 : decode cX7_init 23 = .ok (.sipush 336, 3) := by decide +kernel
theorem dX7_init_26 : decode cX7_init 26 = .ok (.newarray .int, 2) := by decide +kernel
theorem dX7_init_28 : decode cX7_init 28 = .ok (.putfield 16, 3) := by decide +kernel
theorem dX7_init_31 : decode cX7_init 31 = .ok (.aload_n 0, 1) := by decide +kernel
theorem dX7_init_32 : decode cX7_init 32 = .ok (.sipush 1344, 3) := by decide +kernel
theorem dX7_init_35 : decode cX7_init 35 = .ok (.newarray .int, 2) := by decide +kernel
theorem dX7_init_37 : decode cX7_init 37 = .ok (.putfield 19, 3) := by decide +kernel
theorem dX7_init_40 : decode cX7_init 40 = .ok (.aload_n 0, 1) := by decide +kernel
theorem dX7_init_41 : decode cX7_init 41 = .ok (.sipush 336, 3) := by decide +kernel
theorem dX7_init_44 : decode cX7_init 44 = .ok (.newarray .int, 2) := by decide +kernel
theorem dX7_init_46 : decode cX7_init 46 = .ok (.putfield 22, 3) := by decide +kernel
theorem dX7_init_49 : decode cX7_init 49 = .ok (.aload_n 0, 1) := by decide +kernel
theorem dX7_init_50 : decode cX7_init 50 = .ok (.bipush 60, 2) := by decide +kernel
theorem dX7_init_52 : decode cX7_init 52 = .ok (.newarray .int, 2) := by decide +kernel
theorem dX7_init_54 : decode cX7_init 54 = .ok (.putfield 25, 3) := by decide +kernel
theorem dX7_init_57 : decode cX7_init 57 = .ok (.aload_n 0, 1) := by decide +kernel
theorem dX7_init_58 : decode cX7_init 58 = .ok (.bipush (-5), 2) := by decide +kernel
theorem dX7_init_60 : decode cX7_init 60 = .ok (.putfield 28, 3) := by decide +kernel
theorem dX7_init_63 : decode cX7_init 63 = .ok (.aload_n 0, 1) := by decide +kernel
theorem dX7_init_64 : decode cX7_init 64 = .ok (.bipush (-5), 2) := by decide +kernel
theorem dX7_init_66 : decode cX7_init 66 = .ok (.putfield 32, 3) := by decide +kernel
theorem dX7_init_69 : decode cX7_init 69 = .ok (.aload_n 0, 1) := by decide +kernel
theorem dX7_init_70 : decode cX7_init 70 = .ok (.bipush 7, 2) := by decide +kernel
theorem dX7_init_72 : decode cX7_init 72 = .ok (.newarray .int, 2) := by decide +kernel
theorem dX7_init_74 : decode cX7_init 74 = .ok (.putfield 35, 3) := by decide +kernel
theorem dX7_init_77 : decode cX7_init 77 = .ok (.aload_n 0, 1) := by decide +kernel
theorem dX7_init_78 : decode cX7_init 78 = .ok (.bipush 7, 2) := by decide +kernel
theorem dX7_init_80 : decode cX7_init 80 = .ok (.newarray .int, 2) := by decide +kernel
theorem dX7_init_82 : decode cX7_init 82 = .ok (.putfield 38, 3) := by decide +kernel
theorem dX7_init_85 : decode cX7_init 85 = .ok (.aload_n 0, 1) := by decide +kernel
theorem dX7_init_86 : decode cX7_init 86 = .ok (.bipush 7, 2) := by decide +kernel
theorem dX7_init_88 : decode cX7_init 88 = .ok (.newarray .boolean, 2) := by decide +kernel
theorem dX7_init_90 : decode cX7_init 90 = .ok (.putfield 41, 3) := by decide +kernel
theorem dX7_init_93 : decode cX7_init 93 = .ok (.aload_n 0, 1) := by decide +kernel
theorem dX7_init_94 : decode cX7_init 94 = .ok (.iconst 5, 1) := by decide +kernel
theorem dX7_init_95 : decode cX7_init 95 = .ok (.newarray .int, 2) := by decide +kernel
theorem dX7_init_97 : decode cX7_init 97 = .ok (.putfield 45, 3) := by decide +kernel
theorem dX7_init_100 : decode cX7_init 100 = .ok (.aload_n 0, 1) := by decide +kernel
theorem dX7_init_101 : decode cX7_init 101 = .ok (.sipush 384, 3) := by decide +kernel
theorem dX7_init_104 : decode cX7_init 104 = .ok (.newarray .boolean, 2) := by decide +kernel
theorem dX7_init_106 : decode cX7_init 106 = .ok (.putfield 48, 3) := by decide +kernel
theorem dX7_init_109 : decode cX7_init 109 = .ok (.iconst 0, 1) := by decide +kernel
theorem dX7_init_110 : decode cX7_init 110 = .ok (.istore_n 1, 1) := by decide +kernel
theorem dX7_init_111 : decode cX7_init 111 = .ok (.iload_n 1, 1) := by decide +kernel
theorem dX7_init_112 : decode cX7_init 112 = .ok (.bipush 6, 2) := by decide +kernel
theorem dX7_init_114 : decode cX7_init 114 = .ok (.if_icmp .ge 31, 3) := by decide +kernel
theorem dX7_init_117 : decode cX7_init 117 = .ok (.aload_n 0, 1) := by decide +kernel
theorem dX7_init_118 : decode cX7_init 118 = .ok (.getfield 7, 3) := by decide +kernel
theorem dX7_init_121 : decode cX7_init 121 = .ok (.bipush 126, 2) := by decide +kernel
theorem dX7_init_123 : decode cX7_init 123 = .ok (.iload_n 1, 1) := by decide +kernel
theorem dX7_init_124 : decode cX7_init 124 = .ok (.iadd, 1) := by decide +kernel
theorem dX7_init_125 : decode cX7_init 125 = .ok (.iload_n 1, 1) := by decide +kernel
theorem dX7_init_126 : decode cX7_init 126 = .ok (.iastore, 1) := by decide +kernel
theorem dX7_init_127 : decode cX7_init 127 = .ok (.aload_n 0, 1) := by decide +kernel
theorem dX7_init_128 : decode cX7_init 128 = .ok (.getfield 7, 3) := by decide +kernel
theorem dX7_init_131 : decode cX7_init 131 = .ok (.iload_n 1, 1) := by decide +kernel
theorem dX7_init_132 : decode cX7_init 132 = .ok (.iload_n 1, 1) := by decide +kernel
theorem dX7_init_133 : decode cX7_init 133 = .ok (.invokestatic 51, 3) := by decide +kernel
theorem dX7_init_136 : decode cX7_init 136 = .ok (.bipush 64, 2) := by decide +kernel
theorem dX7_init_138 : decode cX7_init 138 = .ok (.iastore, 1) := by decide +kernel
theorem dX7_init_139 : decode cX7_init 139 = .ok (.iinc 1 1, 3) := by decide +kernel
theorem dX7_init_142 : decode cX7_init 142 = .ok (.goto (-31), 3) := by decide +kernel
theorem dX7_init_145 : decode cX7_init 145 = .ok (.return_, 1) := by decide +kernel
theorem dX7_in_0 : decode cX7_in 0 = .ok (.iload_n 0, 1) := by decide +kernel
theorem dX7_in_1 : decode cX7_in 1 = .ok (.iload_n 1, 1) := by decide +kernel
theorem dX7_in_2 : decode cX7_in 2 = .ok (.if_icmp .lt 12, 3) := by decide +kernel
theorem dX7_in_5 : decode cX7_in 5 = .ok (.iload_n 0, 1) := by decide +kernel
theorem dX7_in_6 : decode cX7_in 6 = .ok (.iload_n 2, 1) := by decide +kernel
theorem dX7_in_7 : decode cX7_in 7 = .ok (.if_icmp .gt 7, 3) := by decide +kernel
theorem dX7_in_10 : decode cX7_in 10 = .ok (.iconst 1, 1) := by decide +kernel
theorem dX7_in_11 : decode cX7_in 11 = .ok (.goto 4, 3) := by decide +kernel
theorem dX7_in_14 : decode cX7_in 14 = .ok (.iconst 0, 1) := by decide +kernel
theorem dX7_in_15 : decode cX7_in 15 = .ok (.ireturn, 1) := by decide +kernel
theorem dX7_held_0 : decode cX7_held 0 = .ok (.iconst 0, 1) := by decide +kernel
theorem dX7_held_1 : decode cX7_held 1 = .ok (.bipush 6, 2) := by decide +kernel
theorem dX7_held_3 : decode cX7_held 3 = .ok (.iload_n 1, 1) := by decide +kernel
theorem dX7_held_4 : decode cX7_held 4 = .ok (.imul, 1) := by decide +kernel
theorem dX7_held_5 : decode cX7_held 5 = .ok (.iadd, 1) := by decide +kernel
theorem dX7_held_6 : decode cX7_held 6 = .ok (.iload_n 0, 1) := by decide +kernel
theorem dX7_held_7 : decode cX7_held 7 = .ok (.iadd, 1) := by decide +kernel
theorem dX7_held_8 : decode cX7_held 8 = .ok (.ireturn, 1) := by decide +kernel
theorem dX7_holds_0 : decode cX7_holds 0 = .ok (.bipush 36, 2) := by decide +kernel
theorem dX7_holds_2 : decode cX7_holds 2 = .ok (.bipush 6, 2) := by decide +kernel
theorem dX7_holds_4 : decode cX7_holds 4 = .ok (.iload_n 1, 1) := by decide +kernel
theorem dX7_holds_5 : decode cX7_holds 5 = .ok (.imul, 1) := by decide +kernel
theorem dX7_holds_6 : decode cX7_holds 6 = .ok (.iadd, 1) := by decide +kernel
theorem dX7_holds_7 : decode cX7_holds 7 = .ok (.iload_n 0, 1) := by decide +kernel
theorem dX7_holds_8 : decode cX7_holds 8 = .ok (.iadd, 1) := by decide +kernel
theorem dX7_holds_9 : decode cX7_holds 9 = .ok (.ireturn, 1) := by decide +kernel
theorem dX7_of_0 : decode cX7_of 0 = .ok (.sipush 136, 3) := by decide +kernel
theorem dX7_of_3 : decode cX7_of 3 = .ok (.iconst 5, 1) := by decide +kernel
theorem dX7_of_4 : decode cX7_of 4 = .ok (.iload_n 0, 1) := by decide +kernel
theorem dX7_of_5 : decode cX7_of 5 = .ok (.imul, 1) := by decide +kernel
theorem dX7_of_6 : decode cX7_of 6 = .ok (.iadd, 1) := by decide +kernel
theorem dX7_of_7 : decode cX7_of 7 = .ok (.iload_n 1, 1) := by decide +kernel
theorem dX7_of_8 : decode cX7_of 8 = .ok (.iadd, 1) := by decide +kernel
theorem dX7_of_9 : decode cX7_of 9 = .ok (.ireturn, 1) := by decide +kernel
theorem dX7_isAgent_0 : decode cX7_isAgent 0 = .ok (.iload_n 0, 1) := by decide +kernel
theorem dX7_isAgent_1 : decode cX7_isAgent 1 = .ok (.iconst 0, 1) := by decide +kernel
theorem dX7_isAgent_2 : decode cX7_isAgent 2 = .ok (.iconst 5, 1) := by decide +kernel
theorem dX7_isAgent_3 : decode cX7_isAgent 3 = .ok (.invokestatic 55, 3) := by decide +kernel
theorem dX7_isAgent_6 : decode cX7_isAgent 6 = .ok (.ireturn, 1) := by decide +kernel
theorem dX7_isCell_0 : decode cX7_isCell 0 = .ok (.iload_n 0, 1) := by decide +kernel
theorem dX7_isCell_1 : decode cX7_isCell 1 = .ok (.iconst 0, 1) := by decide +kernel
theorem dX7_isCell_2 : decode cX7_isCell 2 = .ok (.iconst 5, 1) := by decide +kernel
theorem dX7_isCell_3 : decode cX7_isCell 3 = .ok (.invokestatic 55, 3) := by decide +kernel
theorem dX7_isCell_6 : decode cX7_isCell 6 = .ok (.ireturn, 1) := by decide +kernel
theorem dX7_areBoth_0 : decode cX7_areBoth 0 = .ok (.iload_n 0, 1) := by decide +kernel
theorem dX7_areBoth_1 : decode cX7_areBoth 1 = .ok (.invokestatic 59, 3) := by decide +kernel
theorem dX7_areBoth_4 : decode cX7_areBoth 4 = .ok (.ifCond .eq 14, 3) := by decide +kernel
theorem dX7_areBoth_7 : decode cX7_areBoth 7 = .ok (.iload_n 1, 1) := by decide +kernel
theorem dX7_areBoth_8 : decode cX7_areBoth 8 = .ok (.invokestatic 63, 3) := by decide +kernel
theorem dX7_areBoth_11 : decode cX7_areBoth 11 = .ok (.ifCond .eq 7, 3) := by decide +kernel
theorem dX7_areBoth_14 : decode cX7_areBoth 14 = .ok (.iconst 1, 1) := by decide +kernel
theorem dX7_areBoth_15 : decode cX7_areBoth 15 = .ok (.goto 4, 3) := by decide +kernel
theorem dX7_areBoth_18 : decode cX7_areBoth 18 = .ok (.iconst 0, 1) := by decide +kernel
theorem dX7_areBoth_19 : decode cX7_areBoth 19 = .ok (.ireturn, 1) := by decide +kernel
theorem dX7_know_0 : decode cX7_know 0 = .ok (.aload_n 0, 1) := by decide +kernel
theorem dX7_know_1 : decode cX7_know 1 = .ok (.getfield 66, 3) := by decide +kernel
theorem dX7_know_4 : decode cX7_know 4 = .ok (.iconst 4, 1) := by decide +kernel
theorem dX7_know_5 : decode cX7_know 5 = .ok (.if_icmp .ne 44, 3) := by decide +kernel
theorem dX7_know_8 : decode cX7_know 8 = .ok (.iconst 0, 1) := by decide +kernel
theorem dX7_know_9 : decode cX7_know 9 = .ok (.istore_n 1, 1) := by decide +kernel
theorem dX7_know_10 : decode cX7_know 10 = .ok (.iload_n 1, 1) := by decide +kernel
theorem dX7_know_11 : decode cX7_know 11 = .ok (.sipush 1008, 3) := by decide +kernel
theorem dX7_know_14 : decode cX7_know 14 = .ok (.if_icmp .ge 25, 3) := by decide +kernel
theorem dX7_know_17 : decode cX7_know 17 = .ok (.aload_n 0, 1) := by decide +kernel
theorem dX7_know_18 : decode cX7_know 18 = .ok (.getfield 19, 3) := by decide +kernel
theorem dX7_know_21 : decode cX7_know 21 = .ok (.iload_n 1, 1) := by decide +kernel
theorem dX7_know_22 : decode cX7_know 22 = .ok (.aload_n 0, 1) := by decide +kernel
theorem dX7_know_23 : decode cX7_know 23 = .ok (.getfield 19, 3) := by decide +kernel
theorem dX7_know_26 : decode cX7_know 26 = .ok (.sipush 336, 3) := by decide +kernel
theorem dX7_know_29 : decode cX7_know 29 = .ok (.iload_n 1, 1) := by decide +kernel
theorem dX7_know_30 : decode cX7_know 30 = .ok (.iadd, 1) := by decide +kernel
theorem dX7_know_31 : decode cX7_know 31 = .ok (.iaload, 1) := by decide +kernel
theorem dX7_know_32 : decode cX7_know 32 = .ok (.iastore, 1) := by decide +kernel
theorem dX7_know_33 : decode cX7_know 33 = .ok (.iinc 1 1, 3) := by decide +kernel
theorem dX7_know_36 : decode cX7_know 36 = .ok (.goto (-26), 3) := by decide +kernel
theorem dX7_know_39 : decode cX7_know 39 = .ok (.aload_n 0, 1) := by decide +kernel
theorem dX7_know_40 : decode cX7_know 40 = .ok (.dup, 1) := by decide +kernel
theorem dX7_know_41 : decode cX7_know 41 = .ok (.getfield 66, 3) := by decide +kernel
theorem dX7_know_44 : decode cX7_know 44 = .ok (.iconst 1, 1) := by decide +kernel
theorem dX7_know_45 : decode cX7_know 45 = .ok (.isub, 1) := by decide +kernel
theorem dX7_know_46 : decode cX7_know 46 = .ok (.putfield 66, 3) := by decide +kernel
theorem dX7_know_49 : decode cX7_know 49 = .ok (.iconst 0, 1) := by decide +kernel
theorem dX7_know_50 : decode cX7_know 50 = .ok (.istore_n 1, 1) := by decide +kernel
theorem dX7_know_51 : decode cX7_know 51 = .ok (.iload_n 1, 1) := by decide +kernel
theorem dX7_know_52 : decode cX7_know 52 = .ok (.sipush 336, 3) := by decide +kernel
theorem dX7_know_55 : decode cX7_know 55 = .ok (.if_icmp .ge 30, 3) := by decide +kernel
theorem dX7_know_58 : decode cX7_know 58 = .ok (.aload_n 0, 1) := by decide +kernel
theorem dX7_know_59 : decode cX7_know 59 = .ok (.getfield 19, 3) := by decide +kernel
theorem dX7_know_62 : decode cX7_know 62 = .ok (.sipush 336, 3) := by decide +kernel
theorem dX7_know_65 : decode cX7_know 65 = .ok (.aload_n 0, 1) := by decide +kernel
theorem dX7_know_66 : decode cX7_know 66 = .ok (.getfield 66, 3) := by decide +kernel
theorem dX7_know_69 : decode cX7_know 69 = .ok (.imul, 1) := by decide +kernel
theorem dX7_know_70 : decode cX7_know 70 = .ok (.iload_n 1, 1) := by decide +kernel
theorem dX7_know_71 : decode cX7_know 71 = .ok (.iadd, 1) := by decide +kernel
theorem dX7_know_72 : decode cX7_know 72 = .ok (.aload_n 0, 1) := by decide +kernel
theorem dX7_know_73 : decode cX7_know 73 = .ok (.getfield 7, 3) := by decide +kernel
theorem dX7_know_76 : decode cX7_know 76 = .ok (.iload_n 1, 1) := by decide +kernel
theorem dX7_know_77 : decode cX7_know 77 = .ok (.iaload, 1) := by decide +kernel
theorem dX7_know_78 : decode cX7_know 78 = .ok (.iastore, 1) := by decide +kernel
theorem dX7_know_79 : decode cX7_know 79 = .ok (.iinc 1 1, 3) := by decide +kernel
theorem dX7_know_82 : decode cX7_know 82 = .ok (.goto (-31), 3) := by decide +kernel
theorem dX7_know_85 : decode cX7_know 85 = .ok (.aload_n 0, 1) := by decide +kernel
theorem dX7_know_86 : decode cX7_know 86 = .ok (.dup, 1) := by decide +kernel
theorem dX7_know_87 : decode cX7_know 87 = .ok (.getfield 66, 3) := by decide +kernel
theorem dX7_know_90 : decode cX7_know 90 = .ok (.iconst 1, 1) := by decide +kernel
theorem dX7_know_91 : decode cX7_know 91 = .ok (.iadd, 1) := by decide +kernel
theorem dX7_know_92 : decode cX7_know 92 = .ok (.putfield 66, 3) := by decide +kernel
theorem dX7_know_95 : decode cX7_know 95 = .ok (.return_, 1) := by decide +kernel
theorem dX7_putAside_0 : decode cX7_putAside 0 = .ok (.iconst 0, 1) := by decide +kernel
theorem dX7_putAside_1 : decode cX7_putAside 1 = .ok (.istore_n 1, 1) := by decide +kernel
theorem dX7_putAside_2 : decode cX7_putAside 2 = .ok (.iload_n 1, 1) := by decide +kernel
theorem dX7_putAside_3 : decode cX7_putAside 3 = .ok (.sipush 336, 3) := by decide +kernel
theorem dX7_putAside_6 : decode cX7_putAside 6 = .ok (.if_icmp .ge 21, 3) := by decide +kernel
theorem dX7_putAside_9 : decode cX7_putAside 9 = .ok (.aload_n 0, 1) := by decide +kernel
theorem dX7_putAside_10 : decode cX7_putAside 10 = .ok (.getfield 13, 3) := by decide +kernel
theorem dX7_putAside_13 : decode cX7_putAside 13 = .ok (.iload_n 1, 1) := by decide +kernel
theorem dX7_putAside_14 : decode cX7_putAside 14 = .ok (.aload_n 0, 1) := by decide +kernel
theorem dX7_putAside_15 : decode cX7_putAside 15 = .ok (.getfield 7, 3) := by decide +kernel
theorem dX7_putAside_18 : decode cX7_putAside 18 = .ok (.iload_n 1, 1) := by decide +kernel
theorem dX7_putAside_19 : decode cX7_putAside 19 = .ok (.iaload, 1) := by decide +kernel
theorem dX7_putAside_20 : decode cX7_putAside 20 = .ok (.iastore, 1) := by decide +kernel
theorem dX7_putAside_21 : decode cX7_putAside 21 = .ok (.iinc 1 1, 3) := by decide +kernel
theorem dX7_putAside_24 : decode cX7_putAside 24 = .ok (.goto (-22), 3) := by decide +kernel
theorem dX7_putAside_27 : decode cX7_putAside 27 = .ok (.return_, 1) := by decide +kernel
theorem dX7_putBack_0 : decode cX7_putBack 0 = .ok (.iconst 0, 1) := by decide +kernel
theorem dX7_putBack_1 : decode cX7_putBack 1 = .ok (.istore_n 1, 1) := by decide +kernel
theorem dX7_putBack_2 : decode cX7_putBack 2 = .ok (.iload_n 1, 1) := by decide +kernel
theorem dX7_putBack_3 : decode cX7_putBack 3 = .ok (.sipush 336, 3) := by decide +kernel
theorem dX7_putBack_6 : decode cX7_putBack 6 = .ok (.if_icmp .ge 21, 3) := by decide +kernel
theorem dX7_putBack_9 : decode cX7_putBack 9 = .ok (.aload_n 0, 1) := by decide +kernel
theorem dX7_putBack_10 : decode cX7_putBack 10 = .ok (.getfield 7, 3) := by decide +kernel
theorem dX7_putBack_13 : decode cX7_putBack 13 = .ok (.iload_n 1, 1) := by decide +kernel
theorem dX7_putBack_14 : decode cX7_putBack 14 = .ok (.aload_n 0, 1) := by decide +kernel
theorem dX7_putBack_15 : decode cX7_putBack 15 = .ok (.getfield 13, 3) := by decide +kernel
theorem dX7_putBack_18 : decode cX7_putBack 18 = .ok (.iload_n 1, 1) := by decide +kernel
theorem dX7_putBack_19 : decode cX7_putBack 19 = .ok (.iaload, 1) := by decide +kernel
theorem dX7_putBack_20 : decode cX7_putBack 20 = .ok (.iastore, 1) := by decide +kernel
theorem dX7_putBack_21 : decode cX7_putBack 21 = .ok (.iinc 1 1, 3) := by decide +kernel
theorem dX7_putBack_24 : decode cX7_putBack 24 = .ok (.goto (-22), 3) := by decide +kernel
theorem dX7_putBack_27 : decode cX7_putBack 27 = .ok (.return_, 1) := by decide +kernel
theorem dX7_placeOf_0 : decode cX7_placeOf 0 = .ok (.iconst 0, 1) := by decide +kernel
theorem dX7_placeOf_1 : decode cX7_placeOf 1 = .ok (.istore_n 2, 1) := by decide +kernel
theorem dX7_placeOf_2 : decode cX7_placeOf 2 = .ok (.iload_n 2, 1) := by decide +kernel
theorem dX7_placeOf_3 : decode cX7_placeOf 3 = .ok (.aload_n 0, 1) := by decide +kernel
theorem dX7_placeOf_4 : decode cX7_placeOf 4 = .ok (.getfield 7, 3) := by decide +kernel
theorem dX7_placeOf_7 : decode cX7_placeOf 7 = .ok (.sipush 132, 3) := by decide +kernel
theorem dX7_placeOf_10 : decode cX7_placeOf 10 = .ok (.iaload, 1) := by decide +kernel
theorem dX7_placeOf_11 : decode cX7_placeOf 11 = .ok (.if_icmp .ge 25, 3) := by decide +kernel
theorem dX7_placeOf_14 : decode cX7_placeOf 14 = .ok (.aload_n 0, 1) := by decide +kernel
theorem dX7_placeOf_15 : decode cX7_placeOf 15 = .ok (.getfield 7, 3) := by decide +kernel
theorem dX7_placeOf_18 : decode cX7_placeOf 18 = .ok (.iload_n 2, 1) := by decide +kernel
theorem dX7_placeOf_19 : decode cX7_placeOf 19 = .ok (.iconst 0, 1) := by decide +kernel
theorem dX7_placeOf_20 : decode cX7_placeOf 20 = .ok (.invokestatic 69, 3) := by decide +kernel
theorem dX7_placeOf_23 : decode cX7_placeOf 23 = .ok (.iaload, 1) := by decide +kernel
theorem dX7_placeOf_24 : decode cX7_placeOf 24 = .ok (.iload_n 1, 1) := by decide +kernel
theorem dX7_placeOf_25 : decode cX7_placeOf 25 = .ok (.if_icmp .ne 5, 3) := by decide +kernel
theorem dX7_placeOf_28 : decode cX7_placeOf 28 = .ok (.iload_n 2, 1) := by decide +kernel
theorem dX7_placeOf_29 : decode cX7_placeOf 29 = .ok (.ireturn, 1) := by decide +kernel
theorem dX7_placeOf_30 : decode cX7_placeOf 30 = .ok (.iinc 2 1, 3) := by decide +kernel
theorem dX7_placeOf_33 : decode cX7_placeOf 33 = .ok (.goto (-31), 3) := by decide +kernel
theorem dX7_placeOf_36 : decode cX7_placeOf 36 = .ok (.bipush (-5), 2) := by decide +kernel
theorem dX7_placeOf_38 : decode cX7_placeOf 38 = .ok (.ireturn, 1) := by decide +kernel
theorem dX7_isFull_0 : decode cX7_isFull 0 = .ok (.aload_n 0, 1) := by decide +kernel
theorem dX7_isFull_1 : decode cX7_isFull 1 = .ok (.getfield 7, 3) := by decide +kernel
theorem dX7_isFull_4 : decode cX7_isFull 4 = .ok (.sipush 132, 3) := by decide +kernel
theorem dX7_isFull_7 : decode cX7_isFull 7 = .ok (.iaload, 1) := by decide +kernel
theorem dX7_isFull_8 : decode cX7_isFull 8 = .ok (.bipush 40, 2) := by decide +kernel
theorem dX7_isFull_10 : decode cX7_isFull 10 = .ok (.if_icmp .eq 17, 3) := by decide +kernel
theorem dX7_isFull_13 : decode cX7_isFull 13 = .ok (.aload_n 0, 1) := by decide +kernel
theorem dX7_isFull_14 : decode cX7_isFull 14 = .ok (.getfield 7, 3) := by decide +kernel
theorem dX7_isFull_17 : decode cX7_isFull 17 = .ok (.sipush 133, 3) := by decide +kernel
theorem dX7_isFull_20 : decode cX7_isFull 20 = .ok (.iaload, 1) := by decide +kernel
theorem dX7_isFull_21 : decode cX7_isFull 21 = .ok (.sipush 1000, 3) := by decide +kernel
theorem dX7_isFull_24 : decode cX7_isFull 24 = .ok (.if_icmp .ne 7, 3) := by decide +kernel
theorem dX7_isFull_27 : decode cX7_isFull 27 = .ok (.iconst 1, 1) := by decide +kernel
theorem dX7_isFull_28 : decode cX7_isFull 28 = .ok (.goto 4, 3) := by decide +kernel
theorem dX7_isFull_31 : decode cX7_isFull 31 = .ok (.iconst 0, 1) := by decide +kernel
theorem dX7_isFull_32 : decode cX7_isFull 32 = .ok (.ireturn, 1) := by decide +kernel
theorem dX7_lends_0 : decode cX7_lends 0 = .ok (.aload_n 0, 1) := by decide +kernel
theorem dX7_lends_1 : decode cX7_lends 1 = .ok (.getfield 7, 3) := by decide +kernel
theorem dX7_lends_4 : decode cX7_lends 4 = .ok (.sipush 132, 3) := by decide +kernel
theorem dX7_lends_7 : decode cX7_lends 7 = .ok (.iaload, 1) := by decide +kernel
theorem dX7_lends_8 : decode cX7_lends 8 = .ok (.istore 5, 2) := by decide +kernel
theorem dX7_lends_10 : decode cX7_lends 10 = .ok (.aload_n 0, 1) := by decide +kernel
theorem dX7_lends_11 : decode cX7_lends 11 = .ok (.getfield 7, 3) := by decide +kernel
theorem dX7_lends_14 : decode cX7_lends 14 = .ok (.iload 5, 2) := by decide +kernel
theorem dX7_lends_16 : decode cX7_lends 16 = .ok (.iconst 0, 1) := by decide +kernel
theorem dX7_lends_17 : decode cX7_lends 17 = .ok (.invokestatic 69, 3) := by decide +kernel
theorem dX7_lends_20 : decode cX7_lends 20 = .ok (.aload_n 0, 1) := by decide +kernel
theorem dX7_lends_21 : decode cX7_lends 21 = .ok (.getfield 7, 3) := by decide +kernel
theorem dX7_lends_24 : decode cX7_lends 24 = .ok (.sipush 133, 3) := by decide +kernel
theorem dX7_lends_27 : decode cX7_lends 27 = .ok (.iaload, 1) := by decide +kernel
theorem dX7_lends_28 : decode cX7_lends 28 = .ok (.iastore, 1) := by decide +kernel
theorem dX7_lends_29 : decode cX7_lends 29 = .ok (.aload_n 0, 1) := by decide +kernel
theorem dX7_lends_30 : decode cX7_lends 30 = .ok (.getfield 7, 3) := by decide +kernel
theorem dX7_lends_33 : decode cX7_lends 33 = .ok (.iload 5, 2) := by decide +kernel
theorem dX7_lends_35 : decode cX7_lends 35 = .ok (.iconst 1, 1) := by decide +kernel
theorem dX7_lends_36 : decode cX7_lends 36 = .ok (.invokestatic 69, 3) := by decide +kernel
theorem dX7_lends_39 : decode cX7_lends 39 = .ok (.iload_n 1, 1) := by decide +kernel
theorem dX7_lends_40 : decode cX7_lends 40 = .ok (.iastore, 1) := by decide +kernel
theorem dX7_lends_41 : decode cX7_lends 41 = .ok (.aload_n 0, 1) := by decide +kernel
theorem dX7_lends_42 : decode cX7_lends 42 = .ok (.getfield 7, 3) := by decide +kernel
theorem dX7_lends_45 : decode cX7_lends 45 = .ok (.iload 5, 2) := by decide +kernel
theorem dX7_lends_47 : decode cX7_lends 47 = .ok (.iconst 2, 1) := by decide +kernel
theorem dX7_lends_48 : decode cX7_lends 48 = .ok (.invokestatic 69, 3) := by decide +kernel
theorem dX7_lends_51 : decode cX7_lends 51 = .ok (.iload_n 2, 1) := by decide +kernel
theorem dX7_lends_52 : decode cX7_lends 52 = .ok (.iastore, 1) := by decide +kernel
theorem dX7_lends_53 : decode cX7_lends 53 = .ok (.aload_n 0, 1) := by decide +kernel
theorem dX7_lends_54 : decode cX7_lends 54 = .ok (.getfield 7, 3) := by decide +kernel
theorem dX7_lends_57 : decode cX7_lends 57 = .ok (.iload 5, 2) := by decide +kernel
theorem dX7_lends_59 : decode cX7_lends 59 = .ok (.iconst 3, 1) := by decide +kernel
theorem dX7_lends_60 : decode cX7_lends 60 = .ok (.invokestatic 69, 3) := by decide +kernel
theorem dX7_lends_63 : decode cX7_lends 63 = .ok (.iload_n 3, 1) := by decide +kernel
theorem dX7_lends_64 : decode cX7_lends 64 = .ok (.iastore, 1) := by decide +kernel
theorem dX7_lends_65 : decode cX7_lends 65 = .ok (.aload_n 0, 1) := by decide +kernel
theorem dX7_lends_66 : decode cX7_lends 66 = .ok (.getfield 7, 3) := by decide +kernel
theorem dX7_lends_69 : decode cX7_lends 69 = .ok (.iload 5, 2) := by decide +kernel
theorem dX7_lends_71 : decode cX7_lends 71 = .ok (.iconst 4, 1) := by decide +kernel
theorem dX7_lends_72 : decode cX7_lends 72 = .ok (.invokestatic 69, 3) := by decide +kernel
theorem dX7_lends_75 : decode cX7_lends 75 = .ok (.iload 4, 2) := by decide +kernel
theorem dX7_lends_77 : decode cX7_lends 77 = .ok (.iastore, 1) := by decide +kernel
theorem dX7_lends_78 : decode cX7_lends 78 = .ok (.aload_n 0, 1) := by decide +kernel
theorem dX7_lends_79 : decode cX7_lends 79 = .ok (.getfield 7, 3) := by decide +kernel
theorem dX7_lends_82 : decode cX7_lends 82 = .ok (.iload_n 1, 1) := by decide +kernel
theorem dX7_lends_83 : decode cX7_lends 83 = .ok (.iload_n 3, 1) := by decide +kernel
theorem dX7_lends_84 : decode cX7_lends 84 = .ok (.invokestatic 51, 3) := by decide +kernel
theorem dX7_lends_87 : decode cX7_lends 87 = .ok (.dup2, 1) := by decide +kernel
theorem dX7_lends_88 : decode cX7_lends 88 = .ok (.iaload, 1) := by decide +kernel
theorem dX7_lends_89 : decode cX7_lends 89 = .ok (.iload 4, 2) := by decide +kernel
theorem dX7_lends_91 : decode cX7_lends 91 = .ok (.isub, 1) := by decide +kernel
theorem dX7_lends_92 : decode cX7_lends 92 = .ok (.iastore, 1) := by decide +kernel
theorem dX7_lends_93 : decode cX7_lends 93 = .ok (.aload_n 0, 1) := by decide +kernel
theorem dX7_lends_94 : decode cX7_lends 94 = .ok (.getfield 7, 3) := by decide +kernel
theorem dX7_lends_97 : decode cX7_lends 97 = .ok (.iload_n 2, 1) := by decide +kernel
theorem dX7_lends_98 : decode cX7_lends 98 = .ok (.iload_n 3, 1) := by decide +kernel
theorem dX7_lends_99 : decode cX7_lends 99 = .ok (.invokestatic 51, 3) := by decide +kernel
theorem dX7_lends_102 : decode cX7_lends 102 = .ok (.dup2, 1) := by decide +kernel
theorem dX7_lends_103 : decode cX7_lends 103 = .ok (.iaload, 1) := by decide +kernel
theorem dX7_lends_104 : decode cX7_lends 104 = .ok (.iload 4, 2) := by decide +kernel
theorem dX7_lends_106 : decode cX7_lends 106 = .ok (.iadd, 1) := by decide +kernel
theorem dX7_lends_107 : decode cX7_lends 107 = .ok (.iastore, 1) := by decide +kernel
theorem dX7_lends_108 : decode cX7_lends 108 = .ok (.aload_n 0, 1) := by decide +kernel
theorem dX7_lends_109 : decode cX7_lends 109 = .ok (.getfield 7, 3) := by decide +kernel
theorem dX7_lends_112 : decode cX7_lends 112 = .ok (.sipush 132, 3) := by decide +kernel
theorem dX7_lends_115 : decode cX7_lends 115 = .ok (.dup2, 1) := by decide +kernel
theorem dX7_lends_116 : decode cX7_lends 116 = .ok (.iaload, 1) := by decide +kernel
theorem dX7_lends_117 : decode cX7_lends 117 = .ok (.iconst 1, 1) := by decide +kernel
theorem dX7_lends_118 : decode cX7_lends 118 = .ok (.iadd, 1) := by decide +kernel
theorem dX7_lends_119 : decode cX7_lends 119 = .ok (.iastore, 1) := by decide +kernel
theorem dX7_lends_120 : decode cX7_lends 120 = .ok (.aload_n 0, 1) := by decide +kernel
theorem dX7_lends_121 : decode cX7_lends 121 = .ok (.getfield 7, 3) := by decide +kernel
theorem dX7_lends_124 : decode cX7_lends 124 = .ok (.sipush 133, 3) := by decide +kernel
theorem dX7_lends_127 : decode cX7_lends 127 = .ok (.dup2, 1) := by decide +kernel
theorem dX7_lends_128 : decode cX7_lends 128 = .ok (.iaload, 1) := by decide +kernel
theorem dX7_lends_129 : decode cX7_lends 129 = .ok (.iconst 1, 1) := by decide +kernel
theorem dX7_lends_130 : decode cX7_lends 130 = .ok (.iadd, 1) := by decide +kernel
theorem dX7_lends_131 : decode cX7_lends 131 = .ok (.iastore, 1) := by decide +kernel
theorem dX7_lends_132 : decode cX7_lends 132 = .ok (.aload_n 0, 1) := by decide +kernel
theorem dX7_lends_133 : decode cX7_lends 133 = .ok (.getfield 7, 3) := by decide +kernel
theorem dX7_lends_136 : decode cX7_lends 136 = .ok (.sipush 133, 3) := by decide +kernel
theorem dX7_lends_139 : decode cX7_lends 139 = .ok (.iaload, 1) := by decide +kernel
theorem dX7_lends_140 : decode cX7_lends 140 = .ok (.iconst 1, 1) := by decide +kernel
theorem dX7_lends_141 : decode cX7_lends 141 = .ok (.isub, 1) := by decide +kernel
theorem dX7_lends_142 : decode cX7_lends 142 = .ok (.ireturn, 1) := by decide +kernel
theorem dX7_canGive_0 : decode cX7_canGive 0 = .ok (.aload_n 0, 1) := by decide +kernel
theorem dX7_canGive_1 : decode cX7_canGive 1 = .ok (.getfield 7, 3) := by decide +kernel
theorem dX7_canGive_4 : decode cX7_canGive 4 = .ok (.iload_n 1, 1) := by decide +kernel
theorem dX7_canGive_5 : decode cX7_canGive 5 = .ok (.iconst 2, 1) := by decide +kernel
theorem dX7_canGive_6 : decode cX7_canGive 6 = .ok (.invokestatic 69, 3) := by decide +kernel
theorem dX7_canGive_9 : decode cX7_canGive 9 = .ok (.iaload, 1) := by decide +kernel
theorem dX7_canGive_10 : decode cX7_canGive 10 = .ok (.istore_n 2, 1) := by decide +kernel
theorem dX7_canGive_11 : decode cX7_canGive 11 = .ok (.aload_n 0, 1) := by decide +kernel
theorem dX7_canGive_12 : decode cX7_canGive 12 = .ok (.getfield 7, 3) := by decide +kernel
theorem dX7_canGive_15 : decode cX7_canGive 15 = .ok (.iload_n 1, 1) := by decide +kernel
theorem dX7_canGive_16 : decode cX7_canGive 16 = .ok (.iconst 3, 1) := by decide +kernel
theorem dX7_canGive_17 : decode cX7_canGive 17 = .ok (.invokestatic 69, 3) := by decide +kernel
theorem dX7_canGive_20 : decode cX7_canGive 20 = .ok (.iaload, 1) := by decide +kernel
theorem dX7_canGive_21 : decode cX7_canGive 21 = .ok (.istore_n 3, 1) := by decide +kernel
theorem dX7_canGive_22 : decode cX7_canGive 22 = .ok (.aload_n 0, 1) := by decide +kernel
theorem dX7_canGive_23 : decode cX7_canGive 23 = .ok (.getfield 7, 3) := by decide +kernel
theorem dX7_canGive_26 : decode cX7_canGive 26 = .ok (.iload_n 2, 1) := by decide +kernel
theorem dX7_canGive_27 : decode cX7_canGive 27 = .ok (.iload_n 3, 1) := by decide +kernel
theorem dX7_canGive_28 : decode cX7_canGive 28 = .ok (.invokestatic 51, 3) := by decide +kernel
theorem dX7_canGive_31 : decode cX7_canGive 31 = .ok (.iaload, 1) := by decide +kernel
theorem dX7_canGive_32 : decode cX7_canGive 32 = .ok (.aload_n 0, 1) := by decide +kernel
theorem dX7_canGive_33 : decode cX7_canGive 33 = .ok (.getfield 7, 3) := by decide +kernel
theorem dX7_canGive_36 : decode cX7_canGive 36 = .ok (.iload_n 1, 1) := by decide +kernel
theorem dX7_canGive_37 : decode cX7_canGive 37 = .ok (.iconst 4, 1) := by decide +kernel
theorem dX7_canGive_38 : decode cX7_canGive 38 = .ok (.invokestatic 69, 3) := by decide +kernel
theorem dX7_canGive_41 : decode cX7_canGive 41 = .ok (.iaload, 1) := by decide +kernel
theorem dX7_canGive_42 : decode cX7_canGive 42 = .ok (.if_icmp .lt 20, 3) := by decide +kernel
theorem dX7_canGive_45 : decode cX7_canGive 45 = .ok (.aload_n 0, 1) := by decide +kernel
theorem dX7_canGive_46 : decode cX7_canGive 46 = .ok (.getfield 7, 3) := by decide +kernel
theorem dX7_canGive_49 : decode cX7_canGive 49 = .ok (.iload_n 2, 1) := by decide +kernel
theorem dX7_canGive_50 : decode cX7_canGive 50 = .ok (.iload_n 3, 1) := by decide +kernel
theorem dX7_canGive_51 : decode cX7_canGive 51 = .ok (.invokestatic 72, 3) := by decide +kernel
theorem dX7_canGive_54 : decode cX7_canGive 54 = .ok (.iaload, 1) := by decide +kernel
theorem dX7_canGive_55 : decode cX7_canGive 55 = .ok (.ifCond .ne 7, 3) := by decide +kernel
theorem dX7_canGive_58 : decode cX7_canGive 58 = .ok (.iconst 1, 1) := by decide +kernel
theorem dX7_canGive_59 : decode cX7_canGive 59 = .ok (.goto 4, 3) := by decide +kernel
theorem dX7_canGive_62 : decode cX7_canGive 62 = .ok (.iconst 0, 1) := by decide +kernel
theorem dX7_canGive_63 : decode cX7_canGive 63 = .ok (.ireturn, 1) := by decide +kernel
theorem dX7_gives_0 : decode cX7_gives 0 = .ok (.aload_n 0, 1) := by decide +kernel
theorem dX7_gives_1 : decode cX7_gives 1 = .ok (.getfield 7, 3) := by decide +kernel
theorem dX7_gives_4 : decode cX7_gives 4 = .ok (.iload_n 1, 1) := by decide +kernel
theorem dX7_gives_5 : decode cX7_gives 5 = .ok (.iconst 1, 1) := by decide +kernel
theorem dX7_gives_6 : decode cX7_gives 6 = .ok (.invokestatic 69, 3) := by decide +kernel
theorem dX7_gives_9 : decode cX7_gives 9 = .ok (.iaload, 1) := by decide +kernel
theorem dX7_gives_10 : decode cX7_gives 10 = .ok (.istore_n 2, 1) := by decide +kernel
theorem dX7_gives_11 : decode cX7_gives 11 = .ok (.aload_n 0, 1) := by decide +kernel
theorem dX7_gives_12 : decode cX7_gives 12 = .ok (.getfield 7, 3) := by decide +kernel
theorem dX7_gives_15 : decode cX7_gives 15 = .ok (.iload_n 1, 1) := by decide +kernel
theorem dX7_gives_16 : decode cX7_gives 16 = .ok (.iconst 3, 1) := by decide +kernel
theorem dX7_gives_17 : decode cX7_gives 17 = .ok (.invokestatic 69, 3) := by decide +kernel
theorem dX7_gives_20 : decode cX7_gives 20 = .ok (.iaload, 1) := by decide +kernel
theorem dX7_gives_21 : decode cX7_gives 21 = .ok (.istore_n 3, 1) := by decide +kernel
theorem dX7_gives_22 : decode cX7_gives 22 = .ok (.aload_n 0, 1) := by decide +kernel
theorem dX7_gives_23 : decode cX7_gives 23 = .ok (.getfield 7, 3) := by decide +kernel
theorem dX7_gives_26 : decode cX7_gives 26 = .ok (.aload_n 0, 1) := by decide +kernel
theorem dX7_gives_27 : decode cX7_gives 27 = .ok (.getfield 7, 3) := by decide +kernel
theorem dX7_gives_30 : decode cX7_gives 30 = .ok (.iload_n 1, 1) := by decide +kernel
theorem dX7_gives_31 : decode cX7_gives 31 = .ok (.iconst 2, 1) := by decide +kernel
theorem dX7_gives_32 : decode cX7_gives 32 = .ok (.invokestatic 69, 3) := by decide +kernel
theorem dX7_gives_35 : decode cX7_gives 35 = .ok (.iaload, 1) := by decide +kernel
theorem dX7_gives_36 : decode cX7_gives 36 = .ok (.iload_n 3, 1) := by decide +kernel
theorem dX7_gives_37 : decode cX7_gives 37 = .ok (.invokestatic 51, 3) := by decide +kernel
theorem dX7_gives_40 : decode cX7_gives 40 = .ok (.dup2, 1) := by decide +kernel
theorem dX7_gives_41 : decode cX7_gives 41 = .ok (.iaload, 1) := by decide +kernel
theorem dX7_gives_42 : decode cX7_gives 42 = .ok (.aload_n 0, 1) := by decide +kernel
theorem dX7_gives_43 : decode cX7_gives 43 = .ok (.getfield 7, 3) := by decide +kernel
theorem dX7_gives_46 : decode cX7_gives 46 = .ok (.iload_n 1, 1) := by decide +kernel
theorem dX7_gives_47 : decode cX7_gives 47 = .ok (.iconst 4, 1) := by decide +kernel
theorem dX7_gives_48 : decode cX7_gives 48 = .ok (.invokestatic 69, 3) := by decide +kernel
theorem dX7_gives_51 : decode cX7_gives 51 = .ok (.iaload, 1) := by decide +kernel
theorem dX7_gives_52 : decode cX7_gives 52 = .ok (.isub, 1) := by decide +kernel
theorem dX7_gives_53 : decode cX7_gives 53 = .ok (.iastore, 1) := by decide +kernel
theorem dX7_gives_54 : decode cX7_gives 54 = .ok (.aload_n 0, 1) := by decide +kernel
theorem dX7_gives_55 : decode cX7_gives 55 = .ok (.getfield 7, 3) := by decide +kernel
theorem dX7_gives_58 : decode cX7_gives 58 = .ok (.iload_n 2, 1) := by decide +kernel
theorem dX7_gives_59 : decode cX7_gives 59 = .ok (.iload_n 3, 1) := by decide +kernel
theorem dX7_gives_60 : decode cX7_gives 60 = .ok (.invokestatic 51, 3) := by decide +kernel
theorem dX7_gives_63 : decode cX7_gives 63 = .ok (.dup2, 1) := by decide +kernel
theorem dX7_gives_64 : decode cX7_gives 64 = .ok (.iaload, 1) := by decide +kernel
theorem dX7_gives_65 : decode cX7_gives 65 = .ok (.aload_n 0, 1) := by decide +kernel
theorem dX7_gives_66 : decode cX7_gives 66 = .ok (.getfield 7, 3) := by decide +kernel
theorem dX7_gives_69 : decode cX7_gives 69 = .ok (.iload_n 1, 1) := by decide +kernel
theorem dX7_gives_70 : decode cX7_gives 70 = .ok (.iconst 4, 1) := by decide +kernel
theorem dX7_gives_71 : decode cX7_gives 71 = .ok (.invokestatic 69, 3) := by decide +kernel
theorem dX7_gives_74 : decode cX7_gives 74 = .ok (.iaload, 1) := by decide +kernel
theorem dX7_gives_75 : decode cX7_gives 75 = .ok (.iadd, 1) := by decide +kernel
theorem dX7_gives_76 : decode cX7_gives 76 = .ok (.iastore, 1) := by decide +kernel
theorem dX7_gives_77 : decode cX7_gives 77 = .ok (.iload_n 1, 1) := by decide +kernel
theorem dX7_gives_78 : decode cX7_gives 78 = .ok (.iconst 0, 1) := by decide +kernel
theorem dX7_gives_79 : decode cX7_gives 79 = .ok (.invokestatic 69, 3) := by decide +kernel
theorem dX7_gives_82 : decode cX7_gives 82 = .ok (.istore 4, 2) := by decide +kernel
theorem dX7_gives_84 : decode cX7_gives 84 = .ok (.iload 4, 2) := by decide +kernel
theorem dX7_gives_86 : decode cX7_gives 86 = .ok (.aload_n 0, 1) := by decide +kernel
theorem dX7_gives_87 : decode cX7_gives 87 = .ok (.getfield 7, 3) := by decide +kernel
theorem dX7_gives_90 : decode cX7_gives 90 = .ok (.sipush 132, 3) := by decide +kernel
theorem dX7_gives_93 : decode cX7_gives 93 = .ok (.iaload, 1) := by decide +kernel
theorem dX7_gives_94 : decode cX7_gives 94 = .ok (.iconst 1, 1) := by decide +kernel
theorem dX7_gives_95 : decode cX7_gives 95 = .ok (.isub, 1) := by decide +kernel
theorem dX7_gives_96 : decode cX7_gives 96 = .ok (.iconst 0, 1) := by decide +kernel
theorem dX7_gives_97 : decode cX7_gives 97 = .ok (.invokestatic 69, 3) := by decide +kernel
theorem dX7_gives_100 : decode cX7_gives 100 = .ok (.if_icmp .ge 25, 3) := by decide +kernel
theorem dX7_gives_103 : decode cX7_gives 103 = .ok (.aload_n 0, 1) := by decide +kernel
theorem dX7_gives_104 : decode cX7_gives 104 = .ok (.getfield 7, 3) := by decide +kernel
theorem dX7_gives_107 : decode cX7_gives 107 = .ok (.iload 4, 2) := by decide +kernel
theorem dX7_gives_109 : decode cX7_gives 109 = .ok (.aload_n 0, 1) := by decide +kernel
theorem dX7_gives_110 : decode cX7_gives 110 = .ok (.getfield 7, 3) := by decide +kernel
theorem dX7_gives_113 : decode cX7_gives 113 = .ok (.iload 4, 2) := by decide +kernel
theorem dX7_gives_115 : decode cX7_gives 115 = .ok (.iconst 5, 1) := by decide +kernel
theorem dX7_gives_116 : decode cX7_gives 116 = .ok (.iadd, 1) := by decide +kernel
theorem dX7_gives_117 : decode cX7_gives 117 = .ok (.iaload, 1) := by decide +kernel
theorem dX7_gives_118 : decode cX7_gives 118 = .ok (.iastore, 1) := by decide +kernel
theorem dX7_gives_119 : decode cX7_gives 119 = .ok (.iinc 4 1, 3) := by decide +kernel
theorem dX7_gives_122 : decode cX7_gives 122 = .ok (.goto (-38), 3) := by decide +kernel
theorem dX7_gives_125 : decode cX7_gives 125 = .ok (.aload_n 0, 1) := by decide +kernel
theorem dX7_gives_126 : decode cX7_gives 126 = .ok (.getfield 7, 3) := by decide +kernel
theorem dX7_gives_129 : decode cX7_gives 129 = .ok (.sipush 132, 3) := by decide +kernel
theorem dX7_gives_132 : decode cX7_gives 132 = .ok (.dup2, 1) := by decide +kernel
theorem dX7_gives_133 : decode cX7_gives 133 = .ok (.iaload, 1) := by decide +kernel
theorem dX7_gives_134 : decode cX7_gives 134 = .ok (.iconst 1, 1) := by decide +kernel
theorem dX7_gives_135 : decode cX7_gives 135 = .ok (.isub, 1) := by decide +kernel
theorem dX7_gives_136 : decode cX7_gives 136 = .ok (.iastore, 1) := by decide +kernel
theorem dX7_gives_137 : decode cX7_gives 137 = .ok (.aload_n 0, 1) := by decide +kernel
theorem dX7_gives_138 : decode cX7_gives 138 = .ok (.getfield 7, 3) := by decide +kernel
theorem dX7_gives_141 : decode cX7_gives 141 = .ok (.sipush 135, 3) := by decide +kernel
theorem dX7_gives_144 : decode cX7_gives 144 = .ok (.dup2, 1) := by decide +kernel
theorem dX7_gives_145 : decode cX7_gives 145 = .ok (.iaload, 1) := by decide +kernel
theorem dX7_gives_146 : decode cX7_gives 146 = .ok (.iconst 1, 1) := by decide +kernel
theorem dX7_gives_147 : decode cX7_gives 147 = .ok (.iadd, 1) := by decide +kernel
theorem dX7_gives_148 : decode cX7_gives 148 = .ok (.iastore, 1) := by decide +kernel
theorem dX7_gives_149 : decode cX7_gives 149 = .ok (.aload_n 0, 1) := by decide +kernel
theorem dX7_gives_150 : decode cX7_gives 150 = .ok (.getfield 7, 3) := by decide +kernel
theorem dX7_gives_153 : decode cX7_gives 153 = .ok (.iload_n 2, 1) := by decide +kernel
theorem dX7_gives_154 : decode cX7_gives 154 = .ok (.iload_n 3, 1) := by decide +kernel
theorem dX7_gives_155 : decode cX7_gives 155 = .ok (.invokestatic 51, 3) := by decide +kernel
theorem dX7_gives_158 : decode cX7_gives 158 = .ok (.iaload, 1) := by decide +kernel
theorem dX7_gives_159 : decode cX7_gives 159 = .ok (.ireturn, 1) := by decide +kernel
theorem dX7_isGathering_0 : decode cX7_isGathering 0 = .ok (.iconst 0, 1) := by decide +kernel
theorem dX7_isGathering_1 : decode cX7_isGathering 1 = .ok (.istore_n 2, 1) := by decide +kernel
theorem dX7_isGathering_2 : decode cX7_isGathering 2 = .ok (.iconst 0, 1) := by decide +kernel
theorem dX7_isGathering_3 : decode cX7_isGathering 3 = .ok (.istore_n 3, 1) := by decide +kernel
theorem dX7_isGathering_4 : decode cX7_isGathering 4 = .ok (.iload_n 3, 1) := by decide +kernel
theorem dX7_isGathering_5 : decode cX7_isGathering 5 = .ok (.aload_n 0, 1) := by decide +kernel
theorem dX7_isGathering_6 : decode cX7_isGathering 6 = .ok (.getfield 75, 3) := by decide +kernel
theorem dX7_isGathering_9 : decode cX7_isGathering 9 = .ok (.if_icmp .ge 29, 3) := by decide +kernel
theorem dX7_isGathering_12 : decode cX7_isGathering 12 = .ok (.iload_n 2, 1) := by decide +kernel
theorem dX7_isGathering_13 : decode cX7_isGathering 13 = .ok (.ifCond .ne 13, 3) := by decide +kernel
theorem dX7_isGathering_16 : decode cX7_isGathering 16 = .ok (.aload_n 0, 1) := by decide +kernel
theorem dX7_isGathering_17 : decode cX7_isGathering 17 = .ok (.getfield 35, 3) := by decide +kernel
theorem dX7_isGathering_20 : decode cX7_isGathering 20 = .ok (.iload_n 3, 1) := by decide +kernel
theorem dX7_isGathering_21 : decode cX7_isGathering 21 = .ok (.iaload, 1) := by decide +kernel
theorem dX7_isGathering_22 : decode cX7_isGathering 22 = .ok (.iload_n 1, 1) := by decide +kernel
theorem dX7_isGathering_23 : decode cX7_isGathering 23 = .ok (.if_icmp .ne 7, 3) := by decide +kernel
theorem dX7_isGathering_26 : decode cX7_isGathering 26 = .ok (.iconst 1, 1) := by decide +kernel
theorem dX7_isGathering_27 : decode cX7_isGathering 27 = .ok (.goto 4, 3) := by decide +kernel
theorem dX7_isGathering_30 : decode cX7_isGathering 30 = .ok (.iconst 0, 1) := by decide +kernel
theorem dX7_isGathering_31 : decode cX7_isGathering 31 = .ok (.istore_n 2, 1) := by decide +kernel
theorem dX7_isGathering_32 : decode cX7_isGathering 32 = .ok (.iinc 3 1, 3) := by decide +kernel
theorem dX7_isGathering_35 : decode cX7_isGathering 35 = .ok (.goto (-31), 3) := by decide +kernel
theorem dX7_isGathering_38 : decode cX7_isGathering 38 = .ok (.iload_n 2, 1) := by decide +kernel
theorem dX7_isGathering_39 : decode cX7_isGathering 39 = .ok (.ireturn, 1) := by decide +kernel
theorem dX7_enter_0 : decode cX7_enter 0 = .ok (.aload_n 0, 1) := by decide +kernel
theorem dX7_enter_1 : decode cX7_enter 1 = .ok (.getfield 35, 3) := by decide +kernel
theorem dX7_enter_4 : decode cX7_enter 4 = .ok (.aload_n 0, 1) := by decide +kernel
theorem dX7_enter_5 : decode cX7_enter 5 = .ok (.getfield 75, 3) := by decide +kernel
theorem dX7_enter_8 : decode cX7_enter 8 = .ok (.iload_n 1, 1) := by decide +kernel
theorem dX7_enter_9 : decode cX7_enter 9 = .ok (.iastore, 1) := by decide +kernel
theorem dX7_enter_10 : decode cX7_enter 10 = .ok (.aload_n 0, 1) := by decide +kernel
theorem dX7_enter_11 : decode cX7_enter 11 = .ok (.getfield 38, 3) := by decide +kernel
theorem dX7_enter_14 : decode cX7_enter 14 = .ok (.aload_n 0, 1) := by decide +kernel
theorem dX7_enter_15 : decode cX7_enter 15 = .ok (.getfield 75, 3) := by decide +kernel
theorem dX7_enter_18 : decode cX7_enter 18 = .ok (.sipush 1000, 3) := by decide +kernel
theorem dX7_enter_21 : decode cX7_enter 21 = .ok (.iastore, 1) := by decide +kernel
theorem dX7_enter_22 : decode cX7_enter 22 = .ok (.aload_n 0, 1) := by decide +kernel
theorem dX7_enter_23 : decode cX7_enter 23 = .ok (.getfield 41, 3) := by decide +kernel
theorem dX7_enter_26 : decode cX7_enter 26 = .ok (.aload_n 0, 1) := by decide +kernel
theorem dX7_enter_27 : decode cX7_enter 27 = .ok (.getfield 75, 3) := by decide +kernel
theorem dX7_enter_30 : decode cX7_enter 30 = .ok (.iconst 0, 1) := by decide +kernel
theorem dX7_enter_31 : decode cX7_enter 31 = .ok (.bastore, 1) := by decide +kernel
theorem dX7_enter_32 : decode cX7_enter 32 = .ok (.aload_n 0, 1) := by decide +kernel
theorem dX7_enter_33 : decode cX7_enter 33 = .ok (.dup, 1) := by decide +kernel
theorem dX7_enter_34 : decode cX7_enter 34 = .ok (.getfield 75, 3) := by decide +kernel
theorem dX7_enter_37 : decode cX7_enter 37 = .ok (.iconst 1, 1) := by decide +kernel
theorem dX7_enter_38 : decode cX7_enter 38 = .ok (.iadd, 1) := by decide +kernel
theorem dX7_enter_39 : decode cX7_enter 39 = .ok (.putfield 75, 3) := by decide +kernel
theorem dX7_enter_42 : decode cX7_enter 42 = .ok (.return_, 1) := by decide +kernel
theorem dX7_latest_0 : decode cX7_latest 0 = .ok (.bipush (-5), 2) := by decide +kernel
theorem dX7_latest_2 : decode cX7_latest 2 = .ok (.istore 4, 2) := by decide +kernel
theorem dX7_latest_4 : decode cX7_latest 4 = .ok (.iconst 0, 1) := by decide +kernel
theorem dX7_latest_5 : decode cX7_latest 5 = .ok (.istore 5, 2) := by decide +kernel
theorem dX7_latest_7 : decode cX7_latest 7 = .ok (.iload 5, 2) := by decide +kernel
theorem dX7_latest_9 : decode cX7_latest 9 = .ok (.aload_n 0, 1) := by decide +kernel
theorem dX7_latest_10 : decode cX7_latest 10 = .ok (.getfield 7, 3) := by decide +kernel
theorem dX7_latest_13 : decode cX7_latest 13 = .ok (.sipush 132, 3) := by decide +kernel
theorem dX7_latest_16 : decode cX7_latest 16 = .ok (.iaload, 1) := by decide +kernel
theorem dX7_latest_17 : decode cX7_latest 17 = .ok (.if_icmp .ge 75, 3) := by decide +kernel
theorem dX7_latest_20 : decode cX7_latest 20 = .ok (.aload_n 0, 1) := by decide +kernel
theorem dX7_latest_21 : decode cX7_latest 21 = .ok (.getfield 7, 3) := by decide +kernel
theorem dX7_latest_24 : decode cX7_latest 24 = .ok (.iload 5, 2) := by decide +kernel
theorem dX7_latest_26 : decode cX7_latest 26 = .ok (.iconst 1, 1) := by decide +kernel
theorem dX7_latest_27 : decode cX7_latest 27 = .ok (.invokestatic 69, 3) := by decide +kernel
theorem dX7_latest_30 : decode cX7_latest 30 = .ok (.iaload, 1) := by decide +kernel
theorem dX7_latest_31 : decode cX7_latest 31 = .ok (.iload_n 1, 1) := by decide +kernel
theorem dX7_latest_32 : decode cX7_latest 32 = .ok (.if_icmp .ne 37, 3) := by decide +kernel
theorem dX7_latest_35 : decode cX7_latest 35 = .ok (.aload_n 0, 1) := by decide +kernel
theorem dX7_latest_36 : decode cX7_latest 36 = .ok (.getfield 7, 3) := by decide +kernel
theorem dX7_latest_39 : decode cX7_latest 39 = .ok (.iload 5, 2) := by decide +kernel
theorem dX7_latest_41 : decode cX7_latest 41 = .ok (.iconst 3, 1) := by decide +kernel
theorem dX7_latest_42 : decode cX7_latest 42 = .ok (.invokestatic 69, 3) := by decide +kernel
theorem dX7_latest_45 : decode cX7_latest 45 = .ok (.iaload, 1) := by decide +kernel
theorem dX7_latest_46 : decode cX7_latest 46 = .ok (.iload_n 2, 1) := by decide +kernel
theorem dX7_latest_47 : decode cX7_latest 47 = .ok (.if_icmp .ne 22, 3) := by decide +kernel
theorem dX7_latest_50 : decode cX7_latest 50 = .ok (.aload_n 0, 1) := by decide +kernel
theorem dX7_latest_51 : decode cX7_latest 51 = .ok (.getfield 7, 3) := by decide +kernel
theorem dX7_latest_54 : decode cX7_latest 54 = .ok (.iload 5, 2) := by decide +kernel
theorem dX7_latest_56 : decode cX7_latest 56 = .ok (.iconst 0, 1) := by decide +kernel
theorem dX7_latest_57 : decode cX7_latest 57 = .ok (.invokestatic 69, 3) := by decide +kernel
theorem dX7_latest_60 : decode cX7_latest 60 = .ok (.iaload, 1) := by decide +kernel
theorem dX7_latest_61 : decode cX7_latest 61 = .ok (.iload_n 3, 1) := by decide +kernel
theorem dX7_latest_62 : decode cX7_latest 62 = .ok (.if_icmp .ge 7, 3) := by decide +kernel
theorem dX7_latest_65 : decode cX7_latest 65 = .ok (.iconst 1, 1) := by decide +kernel
theorem dX7_latest_66 : decode cX7_latest 66 = .ok (.goto 4, 3) := by decide +kernel
theorem dX7_latest_69 : decode cX7_latest 69 = .ok (.iconst 0, 1) := by decide +kernel
theorem dX7_latest_70 : decode cX7_latest 70 = .ok (.istore 6, 2) := by decide +kernel
theorem dX7_latest_72 : decode cX7_latest 72 = .ok (.iload 6, 2) := by decide +kernel
theorem dX7_latest_74 : decode cX7_latest 74 = .ok (.ifCond .eq 8, 3) := by decide +kernel
theorem dX7_latest_77 : decode cX7_latest 77 = .ok (.iload 5, 2) := by decide +kernel
theorem dX7_latest_79 : decode cX7_latest 79 = .ok (.goto 5, 3) := by decide +kernel
theorem dX7_latest_82 : decode cX7_latest 82 = .ok (.iload 4, 2) := by decide +kernel
theorem dX7_latest_84 : decode cX7_latest 84 = .ok (.istore 4, 2) := by decide +kernel
theorem dX7_latest_86 : decode cX7_latest 86 = .ok (.iinc 5 1, 3) := by decide +kernel
theorem dX7_latest_89 : decode cX7_latest 89 = .ok (.goto (-82), 3) := by decide +kernel
theorem dX7_latest_92 : decode cX7_latest 92 = .ok (.iload 4, 2) := by decide +kernel
theorem dX7_latest_94 : decode cX7_latest 94 = .ok (.ireturn, 1) := by decide +kernel
theorem dX7_gathers_0 : decode cX7_gathers 0 = .ok (.aload_n 0, 1) := by decide +kernel
theorem dX7_gathers_1 : decode cX7_gathers 1 = .ok (.getfield 7, 3) := by decide +kernel
theorem dX7_gathers_4 : decode cX7_gathers 4 = .ok (.sipush 135, 3) := by decide +kernel
theorem dX7_gathers_7 : decode cX7_gathers 7 = .ok (.iaload, 1) := by decide +kernel
theorem dX7_gathers_8 : decode cX7_gathers 8 = .ok (.istore_n 3, 1) := by decide +kernel
theorem dX7_gathers_9 : decode cX7_gathers 9 = .ok (.aload_n 0, 1) := by decide +kernel
theorem dX7_gathers_10 : decode cX7_gathers 10 = .ok (.iconst 0, 1) := by decide +kernel
theorem dX7_gathers_11 : decode cX7_gathers 11 = .ok (.putfield 75, 3) := by decide +kernel
theorem dX7_gathers_14 : decode cX7_gathers 14 = .ok (.aload_n 0, 1) := by decide +kernel
theorem dX7_gathers_15 : decode cX7_gathers 15 = .ok (.iload_n 1, 1) := by decide +kernel
theorem dX7_gathers_16 : decode cX7_gathers 16 = .ok (.invokevirtual 78, 3) := by decide +kernel
theorem dX7_gathers_19 : decode cX7_gathers 19 = .ok (.aload_n 0, 1) := by decide +kernel
theorem dX7_gathers_20 : decode cX7_gathers 20 = .ok (.getfield 75, 3) := by decide +kernel
theorem dX7_gathers_23 : decode cX7_gathers 23 = .ok (.ifCond .le 201, 3) := by decide +kernel
theorem dX7_gathers_26 : decode cX7_gathers 26 = .ok (.aload_n 0, 1) := by decide +kernel
theorem dX7_gathers_27 : decode cX7_gathers 27 = .ok (.getfield 75, 3) := by decide +kernel
theorem dX7_gathers_30 : decode cX7_gathers 30 = .ok (.iconst 1, 1) := by decide +kernel
theorem dX7_gathers_31 : decode cX7_gathers 31 = .ok (.isub, 1) := by decide +kernel
theorem dX7_gathers_32 : decode cX7_gathers 32 = .ok (.istore 4, 2) := by decide +kernel
theorem dX7_gathers_34 : decode cX7_gathers 34 = .ok (.aload_n 0, 1) := by decide +kernel
theorem dX7_gathers_35 : decode cX7_gathers 35 = .ok (.getfield 41, 3) := by decide +kernel
theorem dX7_gathers_38 : decode cX7_gathers 38 = .ok (.iload 4, 2) := by decide +kernel
theorem dX7_gathers_40 : decode cX7_gathers 40 = .ok (.baload, 1) := by decide +kernel
theorem dX7_gathers_41 : decode cX7_gathers 41 = .ok (.ifCond .eq 17, 3) := by decide +kernel
theorem dX7_gathers_44 : decode cX7_gathers 44 = .ok (.aload_n 0, 1) := by decide +kernel
theorem dX7_gathers_45 : decode cX7_gathers 45 = .ok (.aload_n 0, 1) := by decide +kernel
theorem dX7_gathers_46 : decode cX7_gathers 46 = .ok (.getfield 38, 3) := by decide +kernel
theorem dX7_gathers_49 : decode cX7_gathers 49 = .ok (.iload 4, 2) := by decide +kernel
theorem dX7_gathers_51 : decode cX7_gathers 51 = .ok (.iaload, 1) := by decide +kernel
theorem dX7_gathers_52 : decode cX7_gathers 52 = .ok (.invokevirtual 82, 3) := by decide +kernel
theorem dX7_gathers_55 : decode cX7_gathers 55 = .ok (.goto 22, 3) := by decide +kernel
theorem dX7_gathers_58 : decode cX7_gathers 58 = .ok (.aload_n 0, 1) := by decide +kernel
theorem dX7_gathers_59 : decode cX7_gathers 59 = .ok (.aload_n 0, 1) := by decide +kernel
theorem dX7_gathers_60 : decode cX7_gathers 60 = .ok (.getfield 35, 3) := by decide +kernel
theorem dX7_gathers_63 : decode cX7_gathers 63 = .ok (.iload 4, 2) := by decide +kernel
theorem dX7_gathers_65 : decode cX7_gathers 65 = .ok (.iaload, 1) := by decide +kernel
theorem dX7_gathers_66 : decode cX7_gathers 66 = .ok (.iload_n 2, 1) := by decide +kernel
theorem dX7_gathers_67 : decode cX7_gathers 67 = .ok (.aload_n 0, 1) := by decide +kernel
theorem dX7_gathers_68 : decode cX7_gathers 68 = .ok (.getfield 38, 3) := by decide +kernel
theorem dX7_gathers_71 : decode cX7_gathers 71 = .ok (.iload 4, 2) := by decide +kernel
theorem dX7_gathers_73 : decode cX7_gathers 73 = .ok (.iaload, 1) := by decide +kernel
theorem dX7_gathers_74 : decode cX7_gathers 74 = .ok (.invokevirtual 86, 3) := by decide +kernel
theorem dX7_gathers_77 : decode cX7_gathers 77 = .ok (.istore 5, 2) := by decide +kernel
theorem dX7_gathers_79 : decode cX7_gathers 79 = .ok (.iload 5, 2) := by decide +kernel
theorem dX7_gathers_81 : decode cX7_gathers 81 = .ok (.bipush (-5), 2) := by decide +kernel
theorem dX7_gathers_83 : decode cX7_gathers 83 = .ok (.if_icmp .ne 16, 3) := by decide +kernel
theorem dX7_gathers_86 : decode cX7_gathers 86 = .ok (.aload_n 0, 1) := by decide +kernel
theorem dX7_gathers_87 : decode cX7_gathers 87 = .ok (.dup, 1) := by decide +kernel
theorem dX7_gathers_88 : decode cX7_gathers 88 = .ok (.getfield 75, 3) := by decide +kernel
theorem dX7_gathers_91 : decode cX7_gathers 91 = .ok (.iconst 1, 1) := by decide +kernel
theorem dX7_gathers_92 : decode cX7_gathers 92 = .ok (.isub, 1) := by decide +kernel
theorem dX7_gathers_93 : decode cX7_gathers 93 = .ok (.putfield 75, 3) := by decide +kernel
theorem dX7_gathers_96 : decode cX7_gathers 96 = .ok (.goto 125, 3) := by decide +kernel
theorem dX7_gathers_99 : decode cX7_gathers 99 = .ok (.aload_n 0, 1) := by decide +kernel
theorem dX7_gathers_100 : decode cX7_gathers 100 = .ok (.getfield 7, 3) := by decide +kernel
theorem dX7_gathers_103 : decode cX7_gathers 103 = .ok (.iload 5, 2) := by decide +kernel
theorem dX7_gathers_105 : decode cX7_gathers 105 = .ok (.iconst 2, 1) := by decide +kernel
theorem dX7_gathers_106 : decode cX7_gathers 106 = .ok (.invokestatic 69, 3) := by decide +kernel
theorem dX7_gathers_109 : decode cX7_gathers 109 = .ok (.iaload, 1) := by decide +kernel
theorem dX7_gathers_110 : decode cX7_gathers 110 = .ok (.istore 6, 2) := by decide +kernel
theorem dX7_gathers_112 : decode cX7_gathers 112 = .ok (.aload_n 0, 1) := by decide +kernel
theorem dX7_gathers_113 : decode cX7_gathers 113 = .ok (.getfield 41, 3) := by decide +kernel
theorem dX7_gathers_116 : decode cX7_gathers 116 = .ok (.iload 4, 2) := by decide +kernel
theorem dX7_gathers_118 : decode cX7_gathers 118 = .ok (.baload, 1) := by decide +kernel
theorem dX7_gathers_119 : decode cX7_gathers 119 = .ok (.ifCond .ne 41, 3) := by decide +kernel
theorem dX7_gathers_122 : decode cX7_gathers 122 = .ok (.aload_n 0, 1) := by decide +kernel
theorem dX7_gathers_123 : decode cX7_gathers 123 = .ok (.getfield 7, 3) := by decide +kernel
theorem dX7_gathers_126 : decode cX7_gathers 126 = .ok (.iload 6, 2) := by decide +kernel
theorem dX7_gathers_128 : decode cX7_gathers 128 = .ok (.iload_n 2, 1) := by decide +kernel
theorem dX7_gathers_129 : decode cX7_gathers 129 = .ok (.invokestatic 51, 3) := by decide +kernel
theorem dX7_gathers_132 : decode cX7_gathers 132 = .ok (.iaload, 1) := by decide +kernel
theorem dX7_gathers_133 : decode cX7_gathers 133 = .ok (.aload_n 0, 1) := by decide +kernel
theorem dX7_gathers_134 : decode cX7_gathers 134 = .ok (.getfield 7, 3) := by decide +kernel
theorem dX7_gathers_137 : decode cX7_gathers 137 = .ok (.iload 5, 2) := by decide +kernel
theorem dX7_gathers_139 : decode cX7_gathers 139 = .ok (.iconst 4, 1) := by decide +kernel
theorem dX7_gathers_140 : decode cX7_gathers 140 = .ok (.invokestatic 69, 3) := by decide +kernel
theorem dX7_gathers_143 : decode cX7_gathers 143 = .ok (.iaload, 1) := by decide +kernel
theorem dX7_gathers_144 : decode cX7_gathers 144 = .ok (.if_icmp .ge 16, 3) := by decide +kernel
theorem dX7_gathers_147 : decode cX7_gathers 147 = .ok (.aload_n 0, 1) := by decide +kernel
theorem dX7_gathers_148 : decode cX7_gathers 148 = .ok (.iload 6, 2) := by decide +kernel
theorem dX7_gathers_150 : decode cX7_gathers 150 = .ok (.invokevirtual 90, 3) := by decide +kernel
theorem dX7_gathers_153 : decode cX7_gathers 153 = .ok (.ifCond .ne 7, 3) := by decide +kernel
theorem dX7_gathers_156 : decode cX7_gathers 156 = .ok (.iconst 1, 1) := by decide +kernel
theorem dX7_gathers_157 : decode cX7_gathers 157 = .ok (.goto 4, 3) := by decide +kernel
theorem dX7_gathers_160 : decode cX7_gathers 160 = .ok (.iconst 0, 1) := by decide +kernel
theorem dX7_gathers_161 : decode cX7_gathers 161 = .ok (.istore 7, 2) := by decide +kernel
theorem dX7_gathers_163 : decode cX7_gathers 163 = .ok (.aload_n 0, 1) := by decide +kernel
theorem dX7_gathers_164 : decode cX7_gathers 164 = .ok (.getfield 38, 3) := by decide +kernel
theorem dX7_gathers_167 : decode cX7_gathers 167 = .ok (.iload 4, 2) := by decide +kernel
theorem dX7_gathers_169 : decode cX7_gathers 169 = .ok (.aload_n 0, 1) := by decide +kernel
theorem dX7_gathers_170 : decode cX7_gathers 170 = .ok (.getfield 7, 3) := by decide +kernel
theorem dX7_gathers_173 : decode cX7_gathers 173 = .ok (.iload 5, 2) := by decide +kernel
theorem dX7_gathers_175 : decode cX7_gathers 175 = .ok (.iconst 0, 1) := by decide +kernel
theorem dX7_gathers_176 : decode cX7_gathers 176 = .ok (.invokestatic 69, 3) := by decide +kernel
theorem dX7_gathers_179 : decode cX7_gathers 179 = .ok (.iaload, 1) := by decide +kernel
theorem dX7_gathers_180 : decode cX7_gathers 180 = .ok (.iastore, 1) := by decide +kernel
theorem dX7_gathers_181 : decode cX7_gathers 181 = .ok (.aload_n 0, 1) := by decide +kernel
theorem dX7_gathers_182 : decode cX7_gathers 182 = .ok (.getfield 41, 3) := by decide +kernel
theorem dX7_gathers_185 : decode cX7_gathers 185 = .ok (.iload 4, 2) := by decide +kernel
theorem dX7_gathers_187 : decode cX7_gathers 187 = .ok (.iload 7, 2) := by decide +kernel
theorem dX7_gathers_189 : decode cX7_gathers 189 = .ok (.bastore, 1) := by decide +kernel
theorem dX7_gathers_190 : decode cX7_gathers 190 = .ok (.iload 7, 2) := by decide +kernel
theorem dX7_gathers_192 : decode cX7_gathers 192 = .ok (.ifCond .eq 12, 3) := by decide +kernel
theorem dX7_gathers_195 : decode cX7_gathers 195 = .ok (.aload_n 0, 1) := by decide +kernel
theorem dX7_gathers_196 : decode cX7_gathers 196 = .ok (.iload 6, 2) := by decide +kernel
theorem dX7_gathers_198 : decode cX7_gathers 198 = .ok (.invokevirtual 78, 3) := by decide +kernel
theorem dX7_gathers_201 : decode cX7_gathers 201 = .ok (.goto 20, 3) := by decide +kernel
theorem dX7_gathers_204 : decode cX7_gathers 204 = .ok (.aload_n 0, 1) := by decide +kernel
theorem dX7_gathers_205 : decode cX7_gathers 205 = .ok (.iload 5, 2) := by decide +kernel
theorem dX7_gathers_207 : decode cX7_gathers 207 = .ok (.invokevirtual 93, 3) := by decide +kernel
theorem dX7_gathers_210 : decode cX7_gathers 210 = .ok (.ifCond .eq 11, 3) := by decide +kernel
theorem dX7_gathers_213 : decode cX7_gathers 213 = .ok (.aload_n 0, 1) := by decide +kernel
theorem dX7_gathers_214 : decode cX7_gathers 214 = .ok (.iload 5, 2) := by decide +kernel
theorem dX7_gathers_216 : decode cX7_gathers 216 = .ok (.invokevirtual 96, 3) := by decide +kernel
theorem dX7_gathers_219 : decode cX7_gathers 219 = .ok (.istore 8, 2) := by decide +kernel
theorem dX7_gathers_221 : decode cX7_gathers 221 = .ok (.goto (-202), 3) := by decide +kernel
theorem dX7_gathers_224 : decode cX7_gathers 224 = .ok (.aload_n 0, 1) := by decide +kernel
theorem dX7_gathers_225 : decode cX7_gathers 225 = .ok (.getfield 7, 3) := by decide +kernel
theorem dX7_gathers_228 : decode cX7_gathers 228 = .ok (.sipush 135, 3) := by decide +kernel
theorem dX7_gathers_231 : decode cX7_gathers 231 = .ok (.iaload, 1) := by decide +kernel
theorem dX7_gathers_232 : decode cX7_gathers 232 = .ok (.iload_n 3, 1) := by decide +kernel
theorem dX7_gathers_233 : decode cX7_gathers 233 = .ok (.isub, 1) := by decide +kernel
theorem dX7_gathers_234 : decode cX7_gathers 234 = .ok (.ireturn, 1) := by decide +kernel
theorem dX7_wouldGather_0 : decode cX7_wouldGather 0 = .ok (.iconst 0, 1) := by decide +kernel
theorem dX7_wouldGather_1 : decode cX7_wouldGather 1 = .ok (.istore_n 3, 1) := by decide +kernel
theorem dX7_wouldGather_2 : decode cX7_wouldGather 2 = .ok (.iload_n 3, 1) := by decide +kernel
theorem dX7_wouldGather_3 : decode cX7_wouldGather 3 = .ok (.sipush 336, 3) := by decide +kernel
theorem dX7_wouldGather_6 : decode cX7_wouldGather 6 = .ok (.if_icmp .ge 21, 3) := by decide +kernel
theorem dX7_wouldGather_9 : decode cX7_wouldGather 9 = .ok (.aload_n 0, 1) := by decide +kernel
theorem dX7_wouldGather_10 : decode cX7_wouldGather 10 = .ok (.getfield 16, 3) := by decide +kernel
theorem dX7_wouldGather_13 : decode cX7_wouldGather 13 = .ok (.iload_n 3, 1) := by decide +kernel
theorem dX7_wouldGather_14 : decode cX7_wouldGather 14 = .ok (.aload_n 0, 1) := by decide +kernel
theorem dX7_wouldGather_15 : decode cX7_wouldGather 15 = .ok (.getfield 7, 3) := by decide +kernel
theorem dX7_wouldGather_18 : decode cX7_wouldGather 18 = .ok (.iload_n 3, 1) := by decide +kernel
theorem dX7_wouldGather_19 : decode cX7_wouldGather 19 = .ok (.iaload, 1) := by decide +kernel
theorem dX7_wouldGather_20 : decode cX7_wouldGather 20 = .ok (.iastore, 1) := by decide +kernel
theorem dX7_wouldGather_21 : decode cX7_wouldGather 21 = .ok (.iinc 3 1, 3) := by decide +kernel
theorem dX7_wouldGather_24 : decode cX7_wouldGather 24 = .ok (.goto (-22), 3) := by decide +kernel
theorem dX7_wouldGather_27 : decode cX7_wouldGather 27 = .ok (.aload_n 0, 1) := by decide +kernel
theorem dX7_wouldGather_28 : decode cX7_wouldGather 28 = .ok (.iload_n 1, 1) := by decide +kernel
theorem dX7_wouldGather_29 : decode cX7_wouldGather 29 = .ok (.iload_n 2, 1) := by decide +kernel
theorem dX7_wouldGather_30 : decode cX7_wouldGather 30 = .ok (.invokevirtual 99, 3) := by decide +kernel
theorem dX7_wouldGather_33 : decode cX7_wouldGather 33 = .ok (.istore_n 3, 1) := by decide +kernel
theorem dX7_wouldGather_34 : decode cX7_wouldGather 34 = .ok (.aload_n 0, 1) := by decide +kernel
theorem dX7_wouldGather_35 : decode cX7_wouldGather 35 = .ok (.getfield 7, 3) := by decide +kernel
theorem dX7_wouldGather_38 : decode cX7_wouldGather 38 = .ok (.iload_n 1, 1) := by decide +kernel
theorem dX7_wouldGather_39 : decode cX7_wouldGather 39 = .ok (.iload_n 2, 1) := by decide +kernel
theorem dX7_wouldGather_40 : decode cX7_wouldGather 40 = .ok (.invokestatic 51, 3) := by decide +kernel
theorem dX7_wouldGather_43 : decode cX7_wouldGather 43 = .ok (.iaload, 1) := by decide +kernel
theorem dX7_wouldGather_44 : decode cX7_wouldGather 44 = .ok (.istore 4, 2) := by decide +kernel
theorem dX7_wouldGather_46 : decode cX7_wouldGather 46 = .ok (.iconst 0, 1) := by decide +kernel
theorem dX7_wouldGather_47 : decode cX7_wouldGather 47 = .ok (.istore 5, 2) := by decide +kernel
theorem dX7_wouldGather_49 : decode cX7_wouldGather 49 = .ok (.iload 5, 2) := by decide +kernel
theorem dX7_wouldGather_51 : decode cX7_wouldGather 51 = .ok (.sipush 336, 3) := by decide +kernel
theorem dX7_wouldGather_54 : decode cX7_wouldGather 54 = .ok (.if_icmp .ge 23, 3) := by decide +kernel
theorem dX7_wouldGather_57 : decode cX7_wouldGather 57 = .ok (.aload_n 0, 1) := by decide +kernel
theorem dX7_wouldGather_58 : decode cX7_wouldGather 58 = .ok (.getfield 7, 3) := by decide +kernel
theorem dX7_wouldGather_61 : decode cX7_wouldGather 61 = .ok (.iload 5, 2) := by decide +kernel
theorem dX7_wouldGather_63 : decode cX7_wouldGather 63 = .ok (.aload_n 0, 1) := by decide +kernel
theorem dX7_wouldGather_64 : decode cX7_wouldGather 64 = .ok (.getfield 16, 3) := by decide +kernel
theorem dX7_wouldGather_67 : decode cX7_wouldGather 67 = .ok (.iload 5, 2) := by decide +kernel
theorem dX7_wouldGather_69 : decode cX7_wouldGather 69 = .ok (.iaload, 1) := by decide +kernel
theorem dX7_wouldGather_70 : decode cX7_wouldGather 70 = .ok (.iastore, 1) := by decide +kernel
theorem dX7_wouldGather_71 : decode cX7_wouldGather 71 = .ok (.iinc 5 1, 3) := by decide +kernel
theorem dX7_wouldGather_74 : decode cX7_wouldGather 74 = .ok (.goto (-25), 3) := by decide +kernel
theorem dX7_wouldGather_77 : decode cX7_wouldGather 77 = .ok (.iload 4, 2) := by decide +kernel
theorem dX7_wouldGather_79 : decode cX7_wouldGather 79 = .ok (.ireturn, 1) := by decide +kernel
theorem dX7_lendFault_0 : decode cX7_lendFault 0 = .ok (.iload_n 1, 1) := by decide +kernel
theorem dX7_lendFault_1 : decode cX7_lendFault 1 = .ok (.invokestatic 59, 3) := by decide +kernel
theorem dX7_lendFault_4 : decode cX7_lendFault 4 = .ok (.ifCond .eq 17, 3) := by decide +kernel
theorem dX7_lendFault_7 : decode cX7_lendFault 7 = .ok (.iload_n 2, 1) := by decide +kernel
theorem dX7_lendFault_8 : decode cX7_lendFault 8 = .ok (.invokestatic 59, 3) := by decide +kernel
theorem dX7_lendFault_11 : decode cX7_lendFault 11 = .ok (.ifCond .eq 10, 3) := by decide +kernel
theorem dX7_lendFault_14 : decode cX7_lendFault 14 = .ok (.iload_n 3, 1) := by decide +kernel
theorem dX7_lendFault_15 : decode cX7_lendFault 15 = .ok (.invokestatic 63, 3) := by decide +kernel
theorem dX7_lendFault_18 : decode cX7_lendFault 18 = .ok (.ifCond .ne 5, 3) := by decide +kernel
theorem dX7_lendFault_21 : decode cX7_lendFault 21 = .ok (.iconst (-1), 1) := by decide +kernel
theorem dX7_lendFault_22 : decode cX7_lendFault 22 = .ok (.ireturn, 1) := by decide +kernel
theorem dX7_lendFault_23 : decode cX7_lendFault 23 = .ok (.iload 4, 2) := by decide +kernel
theorem dX7_lendFault_25 : decode cX7_lendFault 25 = .ok (.iconst 1, 1) := by decide +kernel
theorem dX7_lendFault_26 : decode cX7_lendFault 26 = .ok (.bipush 64, 2) := by decide +kernel
theorem dX7_lendFault_28 : decode cX7_lendFault 28 = .ok (.invokestatic 55, 3) := by decide +kernel
theorem dX7_lendFault_31 : decode cX7_lendFault 31 = .ok (.ifCond .eq 8, 3) := by decide +kernel
theorem dX7_lendFault_34 : decode cX7_lendFault 34 = .ok (.iload_n 1, 1) := by decide +kernel
theorem dX7_lendFault_35 : decode cX7_lendFault 35 = .ok (.iload_n 2, 1) := by decide +kernel
theorem dX7_lendFault_36 : decode cX7_lendFault 36 = .ok (.if_icmp .ne 6, 3) := by decide +kernel
theorem dX7_lendFault_39 : decode cX7_lendFault 39 = .ok (.bipush (-2), 2) := by decide +kernel
theorem dX7_lendFault_41 : decode cX7_lendFault 41 = .ok (.ireturn, 1) := by decide +kernel
theorem dX7_lendFault_42 : decode cX7_lendFault 42 = .ok (.aload_n 0, 1) := by decide +kernel
theorem dX7_lendFault_43 : decode cX7_lendFault 43 = .ok (.getfield 7, 3) := by decide +kernel
theorem dX7_lendFault_46 : decode cX7_lendFault 46 = .ok (.iload_n 1, 1) := by decide +kernel
theorem dX7_lendFault_47 : decode cX7_lendFault 47 = .ok (.iload_n 3, 1) := by decide +kernel
theorem dX7_lendFault_48 : decode cX7_lendFault 48 = .ok (.invokestatic 51, 3) := by decide +kernel
theorem dX7_lendFault_51 : decode cX7_lendFault 51 = .ok (.iaload, 1) := by decide +kernel
theorem dX7_lendFault_52 : decode cX7_lendFault 52 = .ok (.iload 4, 2) := by decide +kernel
theorem dX7_lendFault_54 : decode cX7_lendFault 54 = .ok (.if_icmp .lt 17, 3) := by decide +kernel
theorem dX7_lendFault_57 : decode cX7_lendFault 57 = .ok (.aload_n 0, 1) := by decide +kernel
theorem dX7_lendFault_58 : decode cX7_lendFault 58 = .ok (.getfield 7, 3) := by decide +kernel
theorem dX7_lendFault_61 : decode cX7_lendFault 61 = .ok (.iload_n 1, 1) := by decide +kernel
theorem dX7_lendFault_62 : decode cX7_lendFault 62 = .ok (.iload_n 3, 1) := by decide +kernel
theorem dX7_lendFault_63 : decode cX7_lendFault 63 = .ok (.invokestatic 72, 3) := by decide +kernel
theorem dX7_lendFault_66 : decode cX7_lendFault 66 = .ok (.iaload, 1) := by decide +kernel
theorem dX7_lendFault_67 : decode cX7_lendFault 67 = .ok (.iconst 1, 1) := by decide +kernel
theorem dX7_lendFault_68 : decode cX7_lendFault 68 = .ok (.if_icmp .ne 6, 3) := by decide +kernel
theorem dX7_lendFault_71 : decode cX7_lendFault 71 = .ok (.bipush (-4), 2) := by decide +kernel
theorem dX7_lendFault_73 : decode cX7_lendFault 73 = .ok (.ireturn, 1) := by decide +kernel
theorem dX7_lendFault_74 : decode cX7_lendFault 74 = .ok (.aload_n 0, 1) := by decide +kernel
theorem dX7_lendFault_75 : decode cX7_lendFault 75 = .ok (.invokevirtual 102, 3) := by decide +kernel
theorem dX7_lendFault_78 : decode cX7_lendFault 78 = .ok (.ifCond .eq 8, 3) := by decide +kernel
theorem dX7_lendFault_81 : decode cX7_lendFault 81 = .ok (.bipush (-3), 2) := by decide +kernel
theorem dX7_lendFault_83 : decode cX7_lendFault 83 = .ok (.goto 4, 3) := by decide +kernel
theorem dX7_lendFault_86 : decode cX7_lendFault 86 = .ok (.iconst 0, 1) := by decide +kernel
theorem dX7_lendFault_87 : decode cX7_lendFault 87 = .ok (.ireturn, 1) := by decide +kernel
theorem dX7_backFault_0 : decode cX7_backFault 0 = .ok (.aload_n 0, 1) := by decide +kernel
theorem dX7_backFault_1 : decode cX7_backFault 1 = .ok (.iload_n 1, 1) := by decide +kernel
theorem dX7_backFault_2 : decode cX7_backFault 2 = .ok (.invokevirtual 82, 3) := by decide +kernel
theorem dX7_backFault_5 : decode cX7_backFault 5 = .ok (.istore_n 2, 1) := by decide +kernel
theorem dX7_backFault_6 : decode cX7_backFault 6 = .ok (.iload_n 2, 1) := by decide +kernel
theorem dX7_backFault_7 : decode cX7_backFault 7 = .ok (.bipush (-5), 2) := by decide +kernel
theorem dX7_backFault_9 : decode cX7_backFault 9 = .ok (.if_icmp .ne 7, 3) := by decide +kernel
theorem dX7_backFault_12 : decode cX7_backFault 12 = .ok (.iconst (-1), 1) := by decide +kernel
theorem dX7_backFault_13 : decode cX7_backFault 13 = .ok (.goto 17, 3) := by decide +kernel
theorem dX7_backFault_16 : decode cX7_backFault 16 = .ok (.aload_n 0, 1) := by decide +kernel
theorem dX7_backFault_17 : decode cX7_backFault 17 = .ok (.iload_n 2, 1) := by decide +kernel
theorem dX7_backFault_18 : decode cX7_backFault 18 = .ok (.invokevirtual 93, 3) := by decide +kernel
theorem dX7_backFault_21 : decode cX7_backFault 21 = .ok (.ifCond .eq 7, 3) := by decide +kernel
theorem dX7_backFault_24 : decode cX7_backFault 24 = .ok (.iconst 0, 1) := by decide +kernel
theorem dX7_backFault_25 : decode cX7_backFault 25 = .ok (.goto 5, 3) := by decide +kernel
theorem dX7_backFault_28 : decode cX7_backFault 28 = .ok (.bipush (-4), 2) := by decide +kernel
theorem dX7_backFault_30 : decode cX7_backFault 30 = .ok (.ireturn, 1) := by decide +kernel
theorem dX7_writeFault_0 : decode cX7_writeFault 0 = .ok (.iload_n 1, 1) := by decide +kernel
theorem dX7_writeFault_1 : decode cX7_writeFault 1 = .ok (.iload_n 2, 1) := by decide +kernel
theorem dX7_writeFault_2 : decode cX7_writeFault 2 = .ok (.invokestatic 106, 3) := by decide +kernel
theorem dX7_writeFault_5 : decode cX7_writeFault 5 = .ok (.ifCond .ne 5, 3) := by decide +kernel
theorem dX7_writeFault_8 : decode cX7_writeFault 8 = .ok (.iconst (-1), 1) := by decide +kernel
theorem dX7_writeFault_9 : decode cX7_writeFault 9 = .ok (.ireturn, 1) := by decide +kernel
theorem dX7_writeFault_10 : decode cX7_writeFault 10 = .ok (.iload_n 3, 1) := by decide +kernel
theorem dX7_writeFault_11 : decode cX7_writeFault 11 = .ok (.iconst 0, 1) := by decide +kernel
theorem dX7_writeFault_12 : decode cX7_writeFault 12 = .ok (.sipush 999, 3) := by decide +kernel
theorem dX7_writeFault_15 : decode cX7_writeFault 15 = .ok (.invokestatic 55, 3) := by decide +kernel
theorem dX7_writeFault_18 : decode cX7_writeFault 18 = .ok (.ifCond .ne 8, 3) := by decide +kernel
theorem dX7_writeFault_21 : decode cX7_writeFault 21 = .ok (.bipush (-2), 2) := by decide +kernel
theorem dX7_writeFault_23 : decode cX7_writeFault 23 = .ok (.goto 24, 3) := by decide +kernel
theorem dX7_writeFault_26 : decode cX7_writeFault 26 = .ok (.aload_n 0, 1) := by decide +kernel
theorem dX7_writeFault_27 : decode cX7_writeFault 27 = .ok (.getfield 7, 3) := by decide +kernel
theorem dX7_writeFault_30 : decode cX7_writeFault 30 = .ok (.iload_n 1, 1) := by decide +kernel
theorem dX7_writeFault_31 : decode cX7_writeFault 31 = .ok (.iload_n 2, 1) := by decide +kernel
theorem dX7_writeFault_32 : decode cX7_writeFault 32 = .ok (.invokestatic 51, 3) := by decide +kernel
theorem dX7_writeFault_35 : decode cX7_writeFault 35 = .ok (.iaload, 1) := by decide +kernel
theorem dX7_writeFault_36 : decode cX7_writeFault 36 = .ok (.bipush 64, 2) := by decide +kernel
theorem dX7_writeFault_38 : decode cX7_writeFault 38 = .ok (.if_icmp .ge 8, 3) := by decide +kernel
theorem dX7_writeFault_41 : decode cX7_writeFault 41 = .ok (.bipush (-4), 2) := by decide +kernel
theorem dX7_writeFault_43 : decode cX7_writeFault 43 = .ok (.goto 4, 3) := by decide +kernel
theorem dX7_writeFault_46 : decode cX7_writeFault 46 = .ok (.iconst 0, 1) := by decide +kernel
theorem dX7_writeFault_47 : decode cX7_writeFault 47 = .ok (.ireturn, 1) := by decide +kernel
theorem dX7_lend_0 : decode cX7_lend 0 = .ok (.aload_n 0, 1) := by decide +kernel
theorem dX7_lend_1 : decode cX7_lend 1 = .ok (.iload_n 1, 1) := by decide +kernel
theorem dX7_lend_2 : decode cX7_lend 2 = .ok (.iload_n 2, 1) := by decide +kernel
theorem dX7_lend_3 : decode cX7_lend 3 = .ok (.iload_n 3, 1) := by decide +kernel
theorem dX7_lend_4 : decode cX7_lend 4 = .ok (.iload 4, 2) := by decide +kernel
theorem dX7_lend_6 : decode cX7_lend 6 = .ok (.invokevirtual 110, 3) := by decide +kernel
theorem dX7_lend_9 : decode cX7_lend 9 = .ok (.istore 5, 2) := by decide +kernel
theorem dX7_lend_11 : decode cX7_lend 11 = .ok (.iload 5, 2) := by decide +kernel
theorem dX7_lend_13 : decode cX7_lend 13 = .ok (.ifCond .ge 6, 3) := by decide +kernel
theorem dX7_lend_16 : decode cX7_lend 16 = .ok (.iload 5, 2) := by decide +kernel
theorem dX7_lend_18 : decode cX7_lend 18 = .ok (.ireturn, 1) := by decide +kernel
theorem dX7_lend_19 : decode cX7_lend 19 = .ok (.aload_n 0, 1) := by decide +kernel
theorem dX7_lend_20 : decode cX7_lend 20 = .ok (.invokevirtual 114, 3) := by decide +kernel
theorem dX7_lend_23 : decode cX7_lend 23 = .ok (.aload_n 0, 1) := by decide +kernel
theorem dX7_lend_24 : decode cX7_lend 24 = .ok (.iload_n 1, 1) := by decide +kernel
theorem dX7_lend_25 : decode cX7_lend 25 = .ok (.iload_n 2, 1) := by decide +kernel
theorem dX7_lend_26 : decode cX7_lend 26 = .ok (.iload_n 3, 1) := by decide +kernel
theorem dX7_lend_27 : decode cX7_lend 27 = .ok (.iload 4, 2) := by decide +kernel
theorem dX7_lend_29 : decode cX7_lend 29 = .ok (.invokevirtual 117, 3) := by decide +kernel
theorem dX7_lend_32 : decode cX7_lend 32 = .ok (.ireturn, 1) := by decide +kernel
theorem dX7_half_0 : decode cX7_half 0 = .ok (.iload_n 1, 1) := by decide +kernel
theorem dX7_half_1 : decode cX7_half 1 = .ok (.invokestatic 59, 3) := by decide +kernel
theorem dX7_half_4 : decode cX7_half 4 = .ok (.ifCond .eq 17, 3) := by decide +kernel
theorem dX7_half_7 : decode cX7_half 7 = .ok (.iload_n 2, 1) := by decide +kernel
theorem dX7_half_8 : decode cX7_half 8 = .ok (.invokestatic 59, 3) := by decide +kernel
theorem dX7_half_11 : decode cX7_half 11 = .ok (.ifCond .eq 10, 3) := by decide +kernel
theorem dX7_half_14 : decode cX7_half 14 = .ok (.iload_n 3, 1) := by decide +kernel
theorem dX7_half_15 : decode cX7_half 15 = .ok (.invokestatic 63, 3) := by decide +kernel
theorem dX7_half_18 : decode cX7_half 18 = .ok (.ifCond .ne 5, 3) := by decide +kernel
theorem dX7_half_21 : decode cX7_half 21 = .ok (.iconst (-1), 1) := by decide +kernel
theorem dX7_half_22 : decode cX7_half 22 = .ok (.ireturn, 1) := by decide +kernel
theorem dX7_half_23 : decode cX7_half 23 = .ok (.iload_n 1, 1) := by decide +kernel
theorem dX7_half_24 : decode cX7_half 24 = .ok (.iload_n 2, 1) := by decide +kernel
theorem dX7_half_25 : decode cX7_half 25 = .ok (.if_icmp .ne 6, 3) := by decide +kernel
theorem dX7_half_28 : decode cX7_half 28 = .ok (.bipush (-2), 2) := by decide +kernel
theorem dX7_half_30 : decode cX7_half 30 = .ok (.ireturn, 1) := by decide +kernel
theorem dX7_half_31 : decode cX7_half 31 = .ok (.aload_n 0, 1) := by decide +kernel
theorem dX7_half_32 : decode cX7_half 32 = .ok (.getfield 7, 3) := by decide +kernel
theorem dX7_half_35 : decode cX7_half 35 = .ok (.iload_n 1, 1) := by decide +kernel
theorem dX7_half_36 : decode cX7_half 36 = .ok (.iload_n 3, 1) := by decide +kernel
theorem dX7_half_37 : decode cX7_half 37 = .ok (.invokestatic 51, 3) := by decide +kernel
theorem dX7_half_40 : decode cX7_half 40 = .ok (.iaload, 1) := by decide +kernel
theorem dX7_half_41 : decode cX7_half 41 = .ok (.iconst 2, 1) := by decide +kernel
theorem dX7_half_42 : decode cX7_half 42 = .ok (.idiv, 1) := by decide +kernel
theorem dX7_half_43 : decode cX7_half 43 = .ok (.istore 4, 2) := by decide +kernel
theorem dX7_half_45 : decode cX7_half 45 = .ok (.iload 4, 2) := by decide +kernel
theorem dX7_half_47 : decode cX7_half 47 = .ok (.iconst 1, 1) := by decide +kernel
theorem dX7_half_48 : decode cX7_half 48 = .ok (.if_icmp .lt 17, 3) := by decide +kernel
theorem dX7_half_51 : decode cX7_half 51 = .ok (.aload_n 0, 1) := by decide +kernel
theorem dX7_half_52 : decode cX7_half 52 = .ok (.getfield 7, 3) := by decide +kernel
theorem dX7_half_55 : decode cX7_half 55 = .ok (.iload_n 1, 1) := by decide +kernel
theorem dX7_half_56 : decode cX7_half 56 = .ok (.iload_n 3, 1) := by decide +kernel
theorem dX7_half_57 : decode cX7_half 57 = .ok (.invokestatic 72, 3) := by decide +kernel
theorem dX7_half_60 : decode cX7_half 60 = .ok (.iaload, 1) := by decide +kernel
theorem dX7_half_61 : decode cX7_half 61 = .ok (.iconst 1, 1) := by decide +kernel
theorem dX7_half_62 : decode cX7_half 62 = .ok (.if_icmp .ne 6, 3) := by decide +kernel
theorem dX7_half_65 : decode cX7_half 65 = .ok (.bipush (-4), 2) := by decide +kernel
theorem dX7_half_67 : decode cX7_half 67 = .ok (.ireturn, 1) := by decide +kernel
theorem dX7_half_68 : decode cX7_half 68 = .ok (.aload_n 0, 1) := by decide +kernel
theorem dX7_half_69 : decode cX7_half 69 = .ok (.invokevirtual 102, 3) := by decide +kernel
theorem dX7_half_72 : decode cX7_half 72 = .ok (.ifCond .eq 6, 3) := by decide +kernel
theorem dX7_half_75 : decode cX7_half 75 = .ok (.bipush (-3), 2) := by decide +kernel
theorem dX7_half_77 : decode cX7_half 77 = .ok (.ireturn, 1) := by decide +kernel
theorem dX7_half_78 : decode cX7_half 78 = .ok (.aload_n 0, 1) := by decide +kernel
theorem dX7_half_79 : decode cX7_half 79 = .ok (.invokevirtual 114, 3) := by decide +kernel
theorem dX7_half_82 : decode cX7_half 82 = .ok (.aload_n 0, 1) := by decide +kernel
theorem dX7_half_83 : decode cX7_half 83 = .ok (.iload_n 1, 1) := by decide +kernel
theorem dX7_half_84 : decode cX7_half 84 = .ok (.iload_n 2, 1) := by decide +kernel
theorem dX7_half_85 : decode cX7_half 85 = .ok (.iload_n 3, 1) := by decide +kernel
theorem dX7_half_86 : decode cX7_half 86 = .ok (.iload 4, 2) := by decide +kernel
theorem dX7_half_88 : decode cX7_half 88 = .ok (.invokevirtual 117, 3) := by decide +kernel
theorem dX7_half_91 : decode cX7_half 91 = .ok (.istore 5, 2) := by decide +kernel
theorem dX7_half_93 : decode cX7_half 93 = .ok (.iload 4, 2) := by decide +kernel
theorem dX7_half_95 : decode cX7_half 95 = .ok (.ireturn, 1) := by decide +kernel
theorem dX7_giveBack_0 : decode cX7_giveBack 0 = .ok (.aload_n 0, 1) := by decide +kernel
theorem dX7_giveBack_1 : decode cX7_giveBack 1 = .ok (.iload_n 1, 1) := by decide +kernel
theorem dX7_giveBack_2 : decode cX7_giveBack 2 = .ok (.invokevirtual 120, 3) := by decide +kernel
theorem dX7_giveBack_5 : decode cX7_giveBack 5 = .ok (.istore_n 2, 1) := by decide +kernel
theorem dX7_giveBack_6 : decode cX7_giveBack 6 = .ok (.iload_n 2, 1) := by decide +kernel
theorem dX7_giveBack_7 : decode cX7_giveBack 7 = .ok (.ifCond .ge 5, 3) := by decide +kernel
theorem dX7_giveBack_10 : decode cX7_giveBack 10 = .ok (.iload_n 2, 1) := by decide +kernel
theorem dX7_giveBack_11 : decode cX7_giveBack 11 = .ok (.ireturn, 1) := by decide +kernel
theorem dX7_giveBack_12 : decode cX7_giveBack 12 = .ok (.aload_n 0, 1) := by decide +kernel
theorem dX7_giveBack_13 : decode cX7_giveBack 13 = .ok (.invokevirtual 114, 3) := by decide +kernel
theorem dX7_giveBack_16 : decode cX7_giveBack 16 = .ok (.aload_n 0, 1) := by decide +kernel
theorem dX7_giveBack_17 : decode cX7_giveBack 17 = .ok (.aload_n 0, 1) := by decide +kernel
theorem dX7_giveBack_18 : decode cX7_giveBack 18 = .ok (.iload_n 1, 1) := by decide +kernel
theorem dX7_giveBack_19 : decode cX7_giveBack 19 = .ok (.invokevirtual 82, 3) := by decide +kernel
theorem dX7_giveBack_22 : decode cX7_giveBack 22 = .ok (.invokevirtual 96, 3) := by decide +kernel
theorem dX7_giveBack_25 : decode cX7_giveBack 25 = .ok (.ireturn, 1) := by decide +kernel
theorem dX7_gather_0 : decode cX7_gather 0 = .ok (.iload_n 1, 1) := by decide +kernel
theorem dX7_gather_1 : decode cX7_gather 1 = .ok (.iload_n 2, 1) := by decide +kernel
theorem dX7_gather_2 : decode cX7_gather 2 = .ok (.invokestatic 106, 3) := by decide +kernel
theorem dX7_gather_5 : decode cX7_gather 5 = .ok (.ifCond .ne 5, 3) := by decide +kernel
theorem dX7_gather_8 : decode cX7_gather 8 = .ok (.iconst (-1), 1) := by decide +kernel
theorem dX7_gather_9 : decode cX7_gather 9 = .ok (.ireturn, 1) := by decide +kernel
theorem dX7_gather_10 : decode cX7_gather 10 = .ok (.aload_n 0, 1) := by decide +kernel
theorem dX7_gather_11 : decode cX7_gather 11 = .ok (.invokevirtual 123, 3) := by decide +kernel
theorem dX7_gather_14 : decode cX7_gather 14 = .ok (.aload_n 0, 1) := by decide +kernel
theorem dX7_gather_15 : decode cX7_gather 15 = .ok (.iload_n 1, 1) := by decide +kernel
theorem dX7_gather_16 : decode cX7_gather 16 = .ok (.iload_n 2, 1) := by decide +kernel
theorem dX7_gather_17 : decode cX7_gather 17 = .ok (.invokevirtual 99, 3) := by decide +kernel
theorem dX7_gather_20 : decode cX7_gather 20 = .ok (.istore_n 3, 1) := by decide +kernel
theorem dX7_gather_21 : decode cX7_gather 21 = .ok (.aload_n 0, 1) := by decide +kernel
theorem dX7_gather_22 : decode cX7_gather 22 = .ok (.invokevirtual 126, 3) := by decide +kernel
theorem dX7_gather_25 : decode cX7_gather 25 = .ok (.iload_n 3, 1) := by decide +kernel
theorem dX7_gather_26 : decode cX7_gather 26 = .ok (.ifCond .ne 6, 3) := by decide +kernel
theorem dX7_gather_29 : decode cX7_gather 29 = .ok (.bipush (-5), 2) := by decide +kernel
theorem dX7_gather_31 : decode cX7_gather 31 = .ok (.ireturn, 1) := by decide +kernel
theorem dX7_gather_32 : decode cX7_gather 32 = .ok (.aload_n 0, 1) := by decide +kernel
theorem dX7_gather_33 : decode cX7_gather 33 = .ok (.invokevirtual 114, 3) := by decide +kernel
theorem dX7_gather_36 : decode cX7_gather 36 = .ok (.aload_n 0, 1) := by decide +kernel
theorem dX7_gather_37 : decode cX7_gather 37 = .ok (.iload_n 1, 1) := by decide +kernel
theorem dX7_gather_38 : decode cX7_gather 38 = .ok (.iload_n 2, 1) := by decide +kernel
theorem dX7_gather_39 : decode cX7_gather 39 = .ok (.invokevirtual 99, 3) := by decide +kernel
theorem dX7_gather_42 : decode cX7_gather 42 = .ok (.istore_n 3, 1) := by decide +kernel
theorem dX7_gather_43 : decode cX7_gather 43 = .ok (.aload_n 0, 1) := by decide +kernel
theorem dX7_gather_44 : decode cX7_gather 44 = .ok (.getfield 7, 3) := by decide +kernel
theorem dX7_gather_47 : decode cX7_gather 47 = .ok (.iload_n 1, 1) := by decide +kernel
theorem dX7_gather_48 : decode cX7_gather 48 = .ok (.iload_n 2, 1) := by decide +kernel
theorem dX7_gather_49 : decode cX7_gather 49 = .ok (.invokestatic 51, 3) := by decide +kernel
theorem dX7_gather_52 : decode cX7_gather 52 = .ok (.iaload, 1) := by decide +kernel
theorem dX7_gather_53 : decode cX7_gather 53 = .ok (.ireturn, 1) := by decide +kernel
theorem dX7_hold_0 : decode cX7_hold 0 = .ok (.iload_n 1, 1) := by decide +kernel
theorem dX7_hold_1 : decode cX7_hold 1 = .ok (.iload_n 2, 1) := by decide +kernel
theorem dX7_hold_2 : decode cX7_hold 2 = .ok (.invokestatic 106, 3) := by decide +kernel
theorem dX7_hold_5 : decode cX7_hold 5 = .ok (.ifCond .ne 5, 3) := by decide +kernel
theorem dX7_hold_8 : decode cX7_hold 8 = .ok (.iconst (-1), 1) := by decide +kernel
theorem dX7_hold_9 : decode cX7_hold 9 = .ok (.ireturn, 1) := by decide +kernel
theorem dX7_hold_10 : decode cX7_hold 10 = .ok (.iload_n 3, 1) := by decide +kernel
theorem dX7_hold_11 : decode cX7_hold 11 = .ok (.ifCond .eq 19, 3) := by decide +kernel
theorem dX7_hold_14 : decode cX7_hold 14 = .ok (.aload_n 0, 1) := by decide +kernel
theorem dX7_hold_15 : decode cX7_hold 15 = .ok (.getfield 7, 3) := by decide +kernel
theorem dX7_hold_18 : decode cX7_hold 18 = .ok (.iload_n 1, 1) := by decide +kernel
theorem dX7_hold_19 : decode cX7_hold 19 = .ok (.iload_n 2, 1) := by decide +kernel
theorem dX7_hold_20 : decode cX7_hold 20 = .ok (.invokestatic 51, 3) := by decide +kernel
theorem dX7_hold_23 : decode cX7_hold 23 = .ok (.iaload, 1) := by decide +kernel
theorem dX7_hold_24 : decode cX7_hold 24 = .ok (.ifCond .ne 6, 3) := by decide +kernel
theorem dX7_hold_27 : decode cX7_hold 27 = .ok (.bipush (-4), 2) := by decide +kernel
theorem dX7_hold_29 : decode cX7_hold 29 = .ok (.ireturn, 1) := by decide +kernel
theorem dX7_hold_30 : decode cX7_hold 30 = .ok (.aload_n 0, 1) := by decide +kernel
theorem dX7_hold_31 : decode cX7_hold 31 = .ok (.getfield 7, 3) := by decide +kernel
theorem dX7_hold_34 : decode cX7_hold 34 = .ok (.iload_n 1, 1) := by decide +kernel
theorem dX7_hold_35 : decode cX7_hold 35 = .ok (.iload_n 2, 1) := by decide +kernel
theorem dX7_hold_36 : decode cX7_hold 36 = .ok (.invokestatic 72, 3) := by decide +kernel
theorem dX7_hold_39 : decode cX7_hold 39 = .ok (.iaload, 1) := by decide +kernel
theorem dX7_hold_40 : decode cX7_hold 40 = .ok (.iconst 1, 1) := by decide +kernel
theorem dX7_hold_41 : decode cX7_hold 41 = .ok (.if_icmp .ne 7, 3) := by decide +kernel
theorem dX7_hold_44 : decode cX7_hold 44 = .ok (.iconst 1, 1) := by decide +kernel
theorem dX7_hold_45 : decode cX7_hold 45 = .ok (.goto 4, 3) := by decide +kernel
theorem dX7_hold_48 : decode cX7_hold 48 = .ok (.iconst 0, 1) := by decide +kernel
theorem dX7_hold_49 : decode cX7_hold 49 = .ok (.iload_n 3, 1) := by decide +kernel
theorem dX7_hold_50 : decode cX7_hold 50 = .ok (.if_icmp .ne 6, 3) := by decide +kernel
theorem dX7_hold_53 : decode cX7_hold 53 = .ok (.bipush (-5), 2) := by decide +kernel
theorem dX7_hold_55 : decode cX7_hold 55 = .ok (.ireturn, 1) := by decide +kernel
theorem dX7_hold_56 : decode cX7_hold 56 = .ok (.aload_n 0, 1) := by decide +kernel
theorem dX7_hold_57 : decode cX7_hold 57 = .ok (.invokevirtual 114, 3) := by decide +kernel
theorem dX7_hold_60 : decode cX7_hold 60 = .ok (.aload_n 0, 1) := by decide +kernel
theorem dX7_hold_61 : decode cX7_hold 61 = .ok (.getfield 7, 3) := by decide +kernel
theorem dX7_hold_64 : decode cX7_hold 64 = .ok (.iload_n 1, 1) := by decide +kernel
theorem dX7_hold_65 : decode cX7_hold 65 = .ok (.iload_n 2, 1) := by decide +kernel
theorem dX7_hold_66 : decode cX7_hold 66 = .ok (.invokestatic 72, 3) := by decide +kernel
theorem dX7_hold_69 : decode cX7_hold 69 = .ok (.iload_n 3, 1) := by decide +kernel
theorem dX7_hold_70 : decode cX7_hold 70 = .ok (.ifCond .eq 7, 3) := by decide +kernel
theorem dX7_hold_73 : decode cX7_hold 73 = .ok (.iconst 1, 1) := by decide +kernel
theorem dX7_hold_74 : decode cX7_hold 74 = .ok (.goto 4, 3) := by decide +kernel
theorem dX7_hold_77 : decode cX7_hold 77 = .ok (.iconst 0, 1) := by decide +kernel
theorem dX7_hold_78 : decode cX7_hold 78 = .ok (.iastore, 1) := by decide +kernel
theorem dX7_hold_79 : decode cX7_hold 79 = .ok (.aload_n 0, 1) := by decide +kernel
theorem dX7_hold_80 : decode cX7_hold 80 = .ok (.getfield 7, 3) := by decide +kernel
theorem dX7_hold_83 : decode cX7_hold 83 = .ok (.bipush 114, 2) := by decide +kernel
theorem dX7_hold_85 : decode cX7_hold 85 = .ok (.iload_n 2, 1) := by decide +kernel
theorem dX7_hold_86 : decode cX7_hold 86 = .ok (.iadd, 1) := by decide +kernel
theorem dX7_hold_87 : decode cX7_hold 87 = .ok (.iaload, 1) := by decide +kernel
theorem dX7_hold_88 : decode cX7_hold 88 = .ok (.ireturn, 1) := by decide +kernel
theorem dX7_writes_0 : decode cX7_writes 0 = .ok (.aload_n 0, 1) := by decide +kernel
theorem dX7_writes_1 : decode cX7_writes 1 = .ok (.getfield 7, 3) := by decide +kernel
theorem dX7_writes_4 : decode cX7_writes 4 = .ok (.bipush 114, 2) := by decide +kernel
theorem dX7_writes_6 : decode cX7_writes 6 = .ok (.iload_n 1, 1) := by decide +kernel
theorem dX7_writes_7 : decode cX7_writes 7 = .ok (.iadd, 1) := by decide +kernel
theorem dX7_writes_8 : decode cX7_writes 8 = .ok (.iload_n 2, 1) := by decide +kernel
theorem dX7_writes_9 : decode cX7_writes 9 = .ok (.iastore, 1) := by decide +kernel
theorem dX7_writes_10 : decode cX7_writes 10 = .ok (.aload_n 0, 1) := by decide +kernel
theorem dX7_writes_11 : decode cX7_writes 11 = .ok (.getfield 7, 3) := by decide +kernel
theorem dX7_writes_14 : decode cX7_writes 14 = .ok (.bipush 120, 2) := by decide +kernel
theorem dX7_writes_16 : decode cX7_writes 16 = .ok (.iload_n 1, 1) := by decide +kernel
theorem dX7_writes_17 : decode cX7_writes 17 = .ok (.iadd, 1) := by decide +kernel
theorem dX7_writes_18 : decode cX7_writes 18 = .ok (.dup2, 1) := by decide +kernel
theorem dX7_writes_19 : decode cX7_writes 19 = .ok (.iaload, 1) := by decide +kernel
theorem dX7_writes_20 : decode cX7_writes 20 = .ok (.iconst 1, 1) := by decide +kernel
theorem dX7_writes_21 : decode cX7_writes 21 = .ok (.iadd, 1) := by decide +kernel
theorem dX7_writes_22 : decode cX7_writes 22 = .ok (.iastore, 1) := by decide +kernel
theorem dX7_writes_23 : decode cX7_writes 23 = .ok (.aload_n 0, 1) := by decide +kernel
theorem dX7_writes_24 : decode cX7_writes 24 = .ok (.getfield 7, 3) := by decide +kernel
theorem dX7_writes_27 : decode cX7_writes 27 = .ok (.sipush 134, 3) := by decide +kernel
theorem dX7_writes_30 : decode cX7_writes 30 = .ok (.dup2, 1) := by decide +kernel
theorem dX7_writes_31 : decode cX7_writes 31 = .ok (.iaload, 1) := by decide +kernel
theorem dX7_writes_32 : decode cX7_writes 32 = .ok (.iconst 1, 1) := by decide +kernel
theorem dX7_writes_33 : decode cX7_writes 33 = .ok (.iadd, 1) := by decide +kernel
theorem dX7_writes_34 : decode cX7_writes 34 = .ok (.iastore, 1) := by decide +kernel
theorem dX7_writes_35 : decode cX7_writes 35 = .ok (.aload_n 0, 1) := by decide +kernel
theorem dX7_writes_36 : decode cX7_writes 36 = .ok (.getfield 7, 3) := by decide +kernel
theorem dX7_writes_39 : decode cX7_writes 39 = .ok (.bipush 120, 2) := by decide +kernel
theorem dX7_writes_41 : decode cX7_writes 41 = .ok (.iload_n 1, 1) := by decide +kernel
theorem dX7_writes_42 : decode cX7_writes 42 = .ok (.iadd, 1) := by decide +kernel
theorem dX7_writes_43 : decode cX7_writes 43 = .ok (.iaload, 1) := by decide +kernel
theorem dX7_writes_44 : decode cX7_writes 44 = .ok (.ireturn, 1) := by decide +kernel
theorem dX7_write_0 : decode cX7_write 0 = .ok (.aload_n 0, 1) := by decide +kernel
theorem dX7_write_1 : decode cX7_write 1 = .ok (.iload_n 1, 1) := by decide +kernel
theorem dX7_write_2 : decode cX7_write 2 = .ok (.iload_n 2, 1) := by decide +kernel
theorem dX7_write_3 : decode cX7_write 3 = .ok (.iload_n 3, 1) := by decide +kernel
theorem dX7_write_4 : decode cX7_write 4 = .ok (.invokevirtual 129, 3) := by decide +kernel
theorem dX7_write_7 : decode cX7_write 7 = .ok (.istore 4, 2) := by decide +kernel
theorem dX7_write_9 : decode cX7_write 9 = .ok (.iload 4, 2) := by decide +kernel
theorem dX7_write_11 : decode cX7_write 11 = .ok (.ifCond .ge 6, 3) := by decide +kernel
theorem dX7_write_14 : decode cX7_write 14 = .ok (.iload 4, 2) := by decide +kernel
theorem dX7_write_16 : decode cX7_write 16 = .ok (.ireturn, 1) := by decide +kernel
theorem dX7_write_17 : decode cX7_write 17 = .ok (.aload_n 0, 1) := by decide +kernel
theorem dX7_write_18 : decode cX7_write 18 = .ok (.invokevirtual 114, 3) := by decide +kernel
theorem dX7_write_21 : decode cX7_write 21 = .ok (.aload_n 0, 1) := by decide +kernel
theorem dX7_write_22 : decode cX7_write 22 = .ok (.iload_n 2, 1) := by decide +kernel
theorem dX7_write_23 : decode cX7_write 23 = .ok (.iload_n 3, 1) := by decide +kernel
theorem dX7_write_24 : decode cX7_write 24 = .ok (.invokevirtual 132, 3) := by decide +kernel
theorem dX7_write_27 : decode cX7_write 27 = .ok (.ireturn, 1) := by decide +kernel
theorem dX7_read_0 : decode cX7_read 0 = .ok (.iload_n 1, 1) := by decide +kernel
theorem dX7_read_1 : decode cX7_read 1 = .ok (.iload_n 2, 1) := by decide +kernel
theorem dX7_read_2 : decode cX7_read 2 = .ok (.invokestatic 106, 3) := by decide +kernel
theorem dX7_read_5 : decode cX7_read 5 = .ok (.ifCond .ne 5, 3) := by decide +kernel
theorem dX7_read_8 : decode cX7_read 8 = .ok (.iconst (-1), 1) := by decide +kernel
theorem dX7_read_9 : decode cX7_read 9 = .ok (.ireturn, 1) := by decide +kernel
theorem dX7_read_10 : decode cX7_read 10 = .ok (.aload_n 0, 1) := by decide +kernel
theorem dX7_read_11 : decode cX7_read 11 = .ok (.getfield 7, 3) := by decide +kernel
theorem dX7_read_14 : decode cX7_read 14 = .ok (.iload_n 1, 1) := by decide +kernel
theorem dX7_read_15 : decode cX7_read 15 = .ok (.iload_n 2, 1) := by decide +kernel
theorem dX7_read_16 : decode cX7_read 16 = .ok (.invokestatic 51, 3) := by decide +kernel
theorem dX7_read_19 : decode cX7_read 19 = .ok (.iaload, 1) := by decide +kernel
theorem dX7_read_20 : decode cX7_read 20 = .ok (.ifCond .ne 8, 3) := by decide +kernel
theorem dX7_read_23 : decode cX7_read 23 = .ok (.bipush (-4), 2) := by decide +kernel
theorem dX7_read_25 : decode cX7_read 25 = .ok (.goto 12, 3) := by decide +kernel
theorem dX7_read_28 : decode cX7_read 28 = .ok (.aload_n 0, 1) := by decide +kernel
theorem dX7_read_29 : decode cX7_read 29 = .ok (.getfield 7, 3) := by decide +kernel
theorem dX7_read_32 : decode cX7_read 32 = .ok (.bipush 114, 2) := by decide +kernel
theorem dX7_read_34 : decode cX7_read 34 = .ok (.iload_n 2, 1) := by decide +kernel
theorem dX7_read_35 : decode cX7_read 35 = .ok (.iadd, 1) := by decide +kernel
theorem dX7_read_36 : decode cX7_read 36 = .ok (.iaload, 1) := by decide +kernel
theorem dX7_read_37 : decode cX7_read 37 = .ok (.ireturn, 1) := by decide +kernel
theorem dX7_placeOfClaim_0 : decode cX7_placeOfClaim 0 = .ok (.bipush (-5), 2) := by decide +kernel
theorem dX7_placeOfClaim_2 : decode cX7_placeOfClaim 2 = .ok (.istore_n 3, 1) := by decide +kernel
theorem dX7_placeOfClaim_3 : decode cX7_placeOfClaim 3 = .ok (.iconst 0, 1) := by decide +kernel
theorem dX7_placeOfClaim_4 : decode cX7_placeOfClaim 4 = .ok (.istore 4, 2) := by decide +kernel
theorem dX7_placeOfClaim_6 : decode cX7_placeOfClaim 6 = .ok (.iload 4, 2) := by decide +kernel
theorem dX7_placeOfClaim_8 : decode cX7_placeOfClaim 8 = .ok (.aload_n 0, 1) := by decide +kernel
theorem dX7_placeOfClaim_9 : decode cX7_placeOfClaim 9 = .ok (.getfield 7, 3) := by decide +kernel
theorem dX7_placeOfClaim_12 : decode cX7_placeOfClaim 12 = .ok (.bipush 108, 2) := by decide +kernel
theorem dX7_placeOfClaim_14 : decode cX7_placeOfClaim 14 = .ok (.iload_n 2, 1) := by decide +kernel
theorem dX7_placeOfClaim_15 : decode cX7_placeOfClaim 15 = .ok (.iadd, 1) := by decide +kernel
theorem dX7_placeOfClaim_16 : decode cX7_placeOfClaim 16 = .ok (.iaload, 1) := by decide +kernel
theorem dX7_placeOfClaim_17 : decode cX7_placeOfClaim 17 = .ok (.if_icmp .ge 35, 3) := by decide +kernel
theorem dX7_placeOfClaim_20 : decode cX7_placeOfClaim 20 = .ok (.aload_n 0, 1) := by decide +kernel
theorem dX7_placeOfClaim_21 : decode cX7_placeOfClaim 21 = .ok (.getfield 7, 3) := by decide +kernel
theorem dX7_placeOfClaim_24 : decode cX7_placeOfClaim 24 = .ok (.bipush 72, 2) := by decide +kernel
theorem dX7_placeOfClaim_26 : decode cX7_placeOfClaim 26 = .ok (.bipush 6, 2) := by decide +kernel
theorem dX7_placeOfClaim_28 : decode cX7_placeOfClaim 28 = .ok (.iload_n 2, 1) := by decide +kernel
theorem dX7_placeOfClaim_29 : decode cX7_placeOfClaim 29 = .ok (.imul, 1) := by decide +kernel
theorem dX7_placeOfClaim_30 : decode cX7_placeOfClaim 30 = .ok (.iadd, 1) := by decide +kernel
theorem dX7_placeOfClaim_31 : decode cX7_placeOfClaim 31 = .ok (.iload 4, 2) := by decide +kernel
theorem dX7_placeOfClaim_33 : decode cX7_placeOfClaim 33 = .ok (.iadd, 1) := by decide +kernel
theorem dX7_placeOfClaim_34 : decode cX7_placeOfClaim 34 = .ok (.iaload, 1) := by decide +kernel
theorem dX7_placeOfClaim_35 : decode cX7_placeOfClaim 35 = .ok (.iload_n 1, 1) := by decide +kernel
theorem dX7_placeOfClaim_36 : decode cX7_placeOfClaim 36 = .ok (.if_icmp .ne 8, 3) := by decide +kernel
theorem dX7_placeOfClaim_39 : decode cX7_placeOfClaim 39 = .ok (.iload 4, 2) := by decide +kernel
theorem dX7_placeOfClaim_41 : decode cX7_placeOfClaim 41 = .ok (.goto 4, 3) := by decide +kernel
theorem dX7_placeOfClaim_44 : decode cX7_placeOfClaim 44 = .ok (.iload_n 3, 1) := by decide +kernel
theorem dX7_placeOfClaim_45 : decode cX7_placeOfClaim 45 = .ok (.istore_n 3, 1) := by decide +kernel
theorem dX7_placeOfClaim_46 : decode cX7_placeOfClaim 46 = .ok (.iinc 4 1, 3) := by decide +kernel
theorem dX7_placeOfClaim_49 : decode cX7_placeOfClaim 49 = .ok (.goto (-43), 3) := by decide +kernel
theorem dX7_placeOfClaim_52 : decode cX7_placeOfClaim 52 = .ok (.iload_n 3, 1) := by decide +kernel
theorem dX7_placeOfClaim_53 : decode cX7_placeOfClaim 53 = .ok (.ireturn, 1) := by decide +kernel
theorem dX7_dropClaim_0 : decode cX7_dropClaim 0 = .ok (.aload_n 0, 1) := by decide +kernel
theorem dX7_dropClaim_1 : decode cX7_dropClaim 1 = .ok (.getfield 7, 3) := by decide +kernel
theorem dX7_dropClaim_4 : decode cX7_dropClaim 4 = .ok (.bipush 108, 2) := by decide +kernel
theorem dX7_dropClaim_6 : decode cX7_dropClaim 6 = .ok (.iload_n 1, 1) := by decide +kernel
theorem dX7_dropClaim_7 : decode cX7_dropClaim 7 = .ok (.iadd, 1) := by decide +kernel
theorem dX7_dropClaim_8 : decode cX7_dropClaim 8 = .ok (.dup2, 1) := by decide +kernel
theorem dX7_dropClaim_9 : decode cX7_dropClaim 9 = .ok (.iaload, 1) := by decide +kernel
theorem dX7_dropClaim_10 : decode cX7_dropClaim 10 = .ok (.iconst 1, 1) := by decide +kernel
theorem dX7_dropClaim_11 : decode cX7_dropClaim 11 = .ok (.isub, 1) := by decide +kernel
theorem dX7_dropClaim_12 : decode cX7_dropClaim 12 = .ok (.iastore, 1) := by decide +kernel
theorem dX7_dropClaim_13 : decode cX7_dropClaim 13 = .ok (.iload_n 2, 1) := by decide +kernel
theorem dX7_dropClaim_14 : decode cX7_dropClaim 14 = .ok (.istore_n 3, 1) := by decide +kernel
theorem dX7_dropClaim_15 : decode cX7_dropClaim 15 = .ok (.iload_n 3, 1) := by decide +kernel
theorem dX7_dropClaim_16 : decode cX7_dropClaim 16 = .ok (.aload_n 0, 1) := by decide +kernel
theorem dX7_dropClaim_17 : decode cX7_dropClaim 17 = .ok (.getfield 7, 3) := by decide +kernel
theorem dX7_dropClaim_20 : decode cX7_dropClaim 20 = .ok (.bipush 108, 2) := by decide +kernel
theorem dX7_dropClaim_22 : decode cX7_dropClaim 22 = .ok (.iload_n 1, 1) := by decide +kernel
theorem dX7_dropClaim_23 : decode cX7_dropClaim 23 = .ok (.iadd, 1) := by decide +kernel
theorem dX7_dropClaim_24 : decode cX7_dropClaim 24 = .ok (.iaload, 1) := by decide +kernel
theorem dX7_dropClaim_25 : decode cX7_dropClaim 25 = .ok (.if_icmp .ge 39, 3) := by decide +kernel
theorem dX7_dropClaim_28 : decode cX7_dropClaim 28 = .ok (.aload_n 0, 1) := by decide +kernel
theorem dX7_dropClaim_29 : decode cX7_dropClaim 29 = .ok (.getfield 7, 3) := by decide +kernel
theorem dX7_dropClaim_32 : decode cX7_dropClaim 32 = .ok (.bipush 72, 2) := by decide +kernel
theorem dX7_dropClaim_34 : decode cX7_dropClaim 34 = .ok (.bipush 6, 2) := by decide +kernel
theorem dX7_dropClaim_36 : decode cX7_dropClaim 36 = .ok (.iload_n 1, 1) := by decide +kernel
theorem dX7_dropClaim_37 : decode cX7_dropClaim 37 = .ok (.imul, 1) := by decide +kernel
theorem dX7_dropClaim_38 : decode cX7_dropClaim 38 = .ok (.iadd, 1) := by decide +kernel
theorem dX7_dropClaim_39 : decode cX7_dropClaim 39 = .ok (.iload_n 3, 1) := by decide +kernel
theorem dX7_dropClaim_40 : decode cX7_dropClaim 40 = .ok (.iadd, 1) := by decide +kernel
theorem dX7_dropClaim_41 : decode cX7_dropClaim 41 = .ok (.aload_n 0, 1) := by decide +kernel
theorem dX7_dropClaim_42 : decode cX7_dropClaim 42 = .ok (.getfield 7, 3) := by decide +kernel
theorem dX7_dropClaim_45 : decode cX7_dropClaim 45 = .ok (.bipush 72, 2) := by decide +kernel
theorem dX7_dropClaim_47 : decode cX7_dropClaim 47 = .ok (.bipush 6, 2) := by decide +kernel
theorem dX7_dropClaim_49 : decode cX7_dropClaim 49 = .ok (.iload_n 1, 1) := by decide +kernel
theorem dX7_dropClaim_50 : decode cX7_dropClaim 50 = .ok (.imul, 1) := by decide +kernel
theorem dX7_dropClaim_51 : decode cX7_dropClaim 51 = .ok (.iadd, 1) := by decide +kernel
theorem dX7_dropClaim_52 : decode cX7_dropClaim 52 = .ok (.iload_n 3, 1) := by decide +kernel
theorem dX7_dropClaim_53 : decode cX7_dropClaim 53 = .ok (.iadd, 1) := by decide +kernel
theorem dX7_dropClaim_54 : decode cX7_dropClaim 54 = .ok (.iconst 1, 1) := by decide +kernel
theorem dX7_dropClaim_55 : decode cX7_dropClaim 55 = .ok (.iadd, 1) := by decide +kernel
theorem dX7_dropClaim_56 : decode cX7_dropClaim 56 = .ok (.iaload, 1) := by decide +kernel
theorem dX7_dropClaim_57 : decode cX7_dropClaim 57 = .ok (.iastore, 1) := by decide +kernel
theorem dX7_dropClaim_58 : decode cX7_dropClaim 58 = .ok (.iinc 3 1, 3) := by decide +kernel
theorem dX7_dropClaim_61 : decode cX7_dropClaim 61 = .ok (.goto (-46), 3) := by decide +kernel
theorem dX7_dropClaim_64 : decode cX7_dropClaim 64 = .ok (.return_, 1) := by decide +kernel
theorem dX7_claim_0 : decode cX7_claim 0 = .ok (.iload_n 1, 1) := by decide +kernel
theorem dX7_claim_1 : decode cX7_claim 1 = .ok (.iload_n 2, 1) := by decide +kernel
theorem dX7_claim_2 : decode cX7_claim 2 = .ok (.invokestatic 106, 3) := by decide +kernel
theorem dX7_claim_5 : decode cX7_claim 5 = .ok (.ifCond .ne 5, 3) := by decide +kernel
theorem dX7_claim_8 : decode cX7_claim 8 = .ok (.iconst (-1), 1) := by decide +kernel
theorem dX7_claim_9 : decode cX7_claim 9 = .ok (.ireturn, 1) := by decide +kernel
theorem dX7_claim_10 : decode cX7_claim 10 = .ok (.aload_n 0, 1) := by decide +kernel
theorem dX7_claim_11 : decode cX7_claim 11 = .ok (.iload_n 1, 1) := by decide +kernel
theorem dX7_claim_12 : decode cX7_claim 12 = .ok (.iload_n 2, 1) := by decide +kernel
theorem dX7_claim_13 : decode cX7_claim 13 = .ok (.invokevirtual 135, 3) := by decide +kernel
theorem dX7_claim_16 : decode cX7_claim 16 = .ok (.istore 4, 2) := by decide +kernel
theorem dX7_claim_18 : decode cX7_claim 18 = .ok (.iload 4, 2) := by decide +kernel
theorem dX7_claim_20 : decode cX7_claim 20 = .ok (.bipush (-5), 2) := by decide +kernel
theorem dX7_claim_22 : decode cX7_claim 22 = .ok (.if_icmp .eq 7, 3) := by decide +kernel
theorem dX7_claim_25 : decode cX7_claim 25 = .ok (.iconst 1, 1) := by decide +kernel
theorem dX7_claim_26 : decode cX7_claim 26 = .ok (.goto 4, 3) := by decide +kernel
theorem dX7_claim_29 : decode cX7_claim 29 = .ok (.iconst 0, 1) := by decide +kernel
theorem dX7_claim_30 : decode cX7_claim 30 = .ok (.iload_n 3, 1) := by decide +kernel
theorem dX7_claim_31 : decode cX7_claim 31 = .ok (.if_icmp .ne 6, 3) := by decide +kernel
theorem dX7_claim_34 : decode cX7_claim 34 = .ok (.bipush (-5), 2) := by decide +kernel
theorem dX7_claim_36 : decode cX7_claim 36 = .ok (.ireturn, 1) := by decide +kernel
theorem dX7_claim_37 : decode cX7_claim 37 = .ok (.aload_n 0, 1) := by decide +kernel
theorem dX7_claim_38 : decode cX7_claim 38 = .ok (.invokevirtual 114, 3) := by decide +kernel
theorem dX7_claim_41 : decode cX7_claim 41 = .ok (.iload_n 3, 1) := by decide +kernel
theorem dX7_claim_42 : decode cX7_claim 42 = .ok (.ifCond .eq 42, 3) := by decide +kernel
theorem dX7_claim_45 : decode cX7_claim 45 = .ok (.aload_n 0, 1) := by decide +kernel
theorem dX7_claim_46 : decode cX7_claim 46 = .ok (.getfield 7, 3) := by decide +kernel
theorem dX7_claim_49 : decode cX7_claim 49 = .ok (.bipush 72, 2) := by decide +kernel
theorem dX7_claim_51 : decode cX7_claim 51 = .ok (.bipush 6, 2) := by decide +kernel
theorem dX7_claim_53 : decode cX7_claim 53 = .ok (.iload_n 2, 1) := by decide +kernel
theorem dX7_claim_54 : decode cX7_claim 54 = .ok (.imul, 1) := by decide +kernel
theorem dX7_claim_55 : decode cX7_claim 55 = .ok (.iadd, 1) := by decide +kernel
theorem dX7_claim_56 : decode cX7_claim 56 = .ok (.aload_n 0, 1) := by decide +kernel
theorem dX7_claim_57 : decode cX7_claim 57 = .ok (.getfield 7, 3) := by decide +kernel
theorem dX7_claim_60 : decode cX7_claim 60 = .ok (.bipush 108, 2) := by decide +kernel
theorem dX7_claim_62 : decode cX7_claim 62 = .ok (.iload_n 2, 1) := by decide +kernel
theorem dX7_claim_63 : decode cX7_claim 63 = .ok (.iadd, 1) := by decide +kernel
theorem dX7_claim_64 : decode cX7_claim 64 = .ok (.iaload, 1) := by decide +kernel
theorem dX7_claim_65 : decode cX7_claim 65 = .ok (.iadd, 1) := by decide +kernel
theorem dX7_claim_66 : decode cX7_claim 66 = .ok (.iload_n 1, 1) := by decide +kernel
theorem dX7_claim_67 : decode cX7_claim 67 = .ok (.iastore, 1) := by decide +kernel
theorem dX7_claim_68 : decode cX7_claim 68 = .ok (.aload_n 0, 1) := by decide +kernel
theorem dX7_claim_69 : decode cX7_claim 69 = .ok (.getfield 7, 3) := by decide +kernel
theorem dX7_claim_72 : decode cX7_claim 72 = .ok (.bipush 108, 2) := by decide +kernel
theorem dX7_claim_74 : decode cX7_claim 74 = .ok (.iload_n 2, 1) := by decide +kernel
theorem dX7_claim_75 : decode cX7_claim 75 = .ok (.iadd, 1) := by decide +kernel
theorem dX7_claim_76 : decode cX7_claim 76 = .ok (.dup2, 1) := by decide +kernel
theorem dX7_claim_77 : decode cX7_claim 77 = .ok (.iaload, 1) := by decide +kernel
theorem dX7_claim_78 : decode cX7_claim 78 = .ok (.iconst 1, 1) := by decide +kernel
theorem dX7_claim_79 : decode cX7_claim 79 = .ok (.iadd, 1) := by decide +kernel
theorem dX7_claim_80 : decode cX7_claim 80 = .ok (.iastore, 1) := by decide +kernel
theorem dX7_claim_81 : decode cX7_claim 81 = .ok (.goto 10, 3) := by decide +kernel
theorem dX7_claim_84 : decode cX7_claim 84 = .ok (.aload_n 0, 1) := by decide +kernel
theorem dX7_claim_85 : decode cX7_claim 85 = .ok (.iload_n 2, 1) := by decide +kernel
theorem dX7_claim_86 : decode cX7_claim 86 = .ok (.iload 4, 2) := by decide +kernel
theorem dX7_claim_88 : decode cX7_claim 88 = .ok (.invokevirtual 138, 3) := by decide +kernel
theorem dX7_claim_91 : decode cX7_claim 91 = .ok (.aload_n 0, 1) := by decide +kernel
theorem dX7_claim_92 : decode cX7_claim 92 = .ok (.getfield 7, 3) := by decide +kernel
theorem dX7_claim_95 : decode cX7_claim 95 = .ok (.bipush 108, 2) := by decide +kernel
theorem dX7_claim_97 : decode cX7_claim 97 = .ok (.iload_n 2, 1) := by decide +kernel
theorem dX7_claim_98 : decode cX7_claim 98 = .ok (.iadd, 1) := by decide +kernel
theorem dX7_claim_99 : decode cX7_claim 99 = .ok (.iaload, 1) := by decide +kernel
theorem dX7_claim_100 : decode cX7_claim 100 = .ok (.ireturn, 1) := by decide +kernel
theorem dX7_serves_0 : decode cX7_serves 0 = .ok (.aload_n 0, 1) := by decide +kernel
theorem dX7_serves_1 : decode cX7_serves 1 = .ok (.getfield 7, 3) := by decide +kernel
theorem dX7_serves_4 : decode cX7_serves 4 = .ok (.bipush 126, 2) := by decide +kernel
theorem dX7_serves_6 : decode cX7_serves 6 = .ok (.iload_n 1, 1) := by decide +kernel
theorem dX7_serves_7 : decode cX7_serves 7 = .ok (.iadd, 1) := by decide +kernel
theorem dX7_serves_8 : decode cX7_serves 8 = .ok (.iaload, 1) := by decide +kernel
theorem dX7_serves_9 : decode cX7_serves 9 = .ok (.istore_n 2, 1) := by decide +kernel
theorem dX7_serves_10 : decode cX7_serves 10 = .ok (.aload_n 0, 1) := by decide +kernel
theorem dX7_serves_11 : decode cX7_serves 11 = .ok (.getfield 7, 3) := by decide +kernel
theorem dX7_serves_14 : decode cX7_serves 14 = .ok (.bipush 72, 2) := by decide +kernel
theorem dX7_serves_16 : decode cX7_serves 16 = .ok (.bipush 6, 2) := by decide +kernel
theorem dX7_serves_18 : decode cX7_serves 18 = .ok (.iload_n 1, 1) := by decide +kernel
theorem dX7_serves_19 : decode cX7_serves 19 = .ok (.imul, 1) := by decide +kernel
theorem dX7_serves_20 : decode cX7_serves 20 = .ok (.iadd, 1) := by decide +kernel
theorem dX7_serves_21 : decode cX7_serves 21 = .ok (.iaload, 1) := by decide +kernel
theorem dX7_serves_22 : decode cX7_serves 22 = .ok (.istore_n 3, 1) := by decide +kernel
theorem dX7_serves_23 : decode cX7_serves 23 = .ok (.aload_n 0, 1) := by decide +kernel
theorem dX7_serves_24 : decode cX7_serves 24 = .ok (.iload_n 2, 1) := by decide +kernel
theorem dX7_serves_25 : decode cX7_serves 25 = .ok (.iload_n 1, 1) := by decide +kernel
theorem dX7_serves_26 : decode cX7_serves 26 = .ok (.invokevirtual 99, 3) := by decide +kernel
theorem dX7_serves_29 : decode cX7_serves 29 = .ok (.istore 4, 2) := by decide +kernel
theorem dX7_serves_31 : decode cX7_serves 31 = .ok (.aload_n 0, 1) := by decide +kernel
theorem dX7_serves_32 : decode cX7_serves 32 = .ok (.getfield 7, 3) := by decide +kernel
theorem dX7_serves_35 : decode cX7_serves 35 = .ok (.iload_n 2, 1) := by decide +kernel
theorem dX7_serves_36 : decode cX7_serves 36 = .ok (.iload_n 1, 1) := by decide +kernel
theorem dX7_serves_37 : decode cX7_serves 37 = .ok (.invokestatic 51, 3) := by decide +kernel
theorem dX7_serves_40 : decode cX7_serves 40 = .ok (.iaload, 1) := by decide +kernel
theorem dX7_serves_41 : decode cX7_serves 41 = .ok (.bipush 64, 2) := by decide +kernel
theorem dX7_serves_43 : decode cX7_serves 43 = .ok (.if_icmp .ne 20, 3) := by decide +kernel
theorem dX7_serves_46 : decode cX7_serves 46 = .ok (.aload_n 0, 1) := by decide +kernel
theorem dX7_serves_47 : decode cX7_serves 47 = .ok (.getfield 7, 3) := by decide +kernel
theorem dX7_serves_50 : decode cX7_serves 50 = .ok (.iload_n 2, 1) := by decide +kernel
theorem dX7_serves_51 : decode cX7_serves 51 = .ok (.iload_n 1, 1) := by decide +kernel
theorem dX7_serves_52 : decode cX7_serves 52 = .ok (.invokestatic 72, 3) := by decide +kernel
theorem dX7_serves_55 : decode cX7_serves 55 = .ok (.iaload, 1) := by decide +kernel
theorem dX7_serves_56 : decode cX7_serves 56 = .ok (.ifCond .ne 7, 3) := by decide +kernel
theorem dX7_serves_59 : decode cX7_serves 59 = .ok (.iconst 1, 1) := by decide +kernel
theorem dX7_serves_60 : decode cX7_serves 60 = .ok (.goto 4, 3) := by decide +kernel
theorem dX7_serves_63 : decode cX7_serves 63 = .ok (.iconst 0, 1) := by decide +kernel
theorem dX7_serves_64 : decode cX7_serves 64 = .ok (.istore 5, 2) := by decide +kernel
theorem dX7_serves_66 : decode cX7_serves 66 = .ok (.iload 5, 2) := by decide +kernel
theorem dX7_serves_68 : decode cX7_serves 68 = .ok (.ifCond .ne 16, 3) := by decide +kernel
theorem dX7_serves_71 : decode cX7_serves 71 = .ok (.iload 4, 2) := by decide +kernel
theorem dX7_serves_73 : decode cX7_serves 73 = .ok (.ifCond .le 8, 3) := by decide +kernel
theorem dX7_serves_76 : decode cX7_serves 76 = .ok (.bipush 9, 2) := by decide +kernel
theorem dX7_serves_78 : decode cX7_serves 78 = .ok (.goto 5, 3) := by decide +kernel
theorem dX7_serves_81 : decode cX7_serves 81 = .ok (.bipush (-5), 2) := by decide +kernel
theorem dX7_serves_83 : decode cX7_serves 83 = .ok (.ireturn, 1) := by decide +kernel
theorem dX7_serves_84 : decode cX7_serves 84 = .ok (.iload_n 3, 1) := by decide +kernel
theorem dX7_serves_85 : decode cX7_serves 85 = .ok (.iload_n 2, 1) := by decide +kernel
theorem dX7_serves_86 : decode cX7_serves 86 = .ok (.if_icmp .eq 13, 3) := by decide +kernel
theorem dX7_serves_89 : decode cX7_serves 89 = .ok (.aload_n 0, 1) := by decide +kernel
theorem dX7_serves_90 : decode cX7_serves 90 = .ok (.invokevirtual 102, 3) := by decide +kernel
theorem dX7_serves_93 : decode cX7_serves 93 = .ok (.ifCond .eq 6, 3) := by decide +kernel
theorem dX7_serves_96 : decode cX7_serves 96 = .ok (.bipush (-3), 2) := by decide +kernel
theorem dX7_serves_98 : decode cX7_serves 98 = .ok (.ireturn, 1) := by decide +kernel
theorem dX7_serves_99 : decode cX7_serves 99 = .ok (.aload_n 0, 1) := by decide +kernel
theorem dX7_serves_100 : decode cX7_serves 100 = .ok (.iload_n 1, 1) := by decide +kernel
theorem dX7_serves_101 : decode cX7_serves 101 = .ok (.iconst 0, 1) := by decide +kernel
theorem dX7_serves_102 : decode cX7_serves 102 = .ok (.invokevirtual 138, 3) := by decide +kernel
theorem dX7_serves_105 : decode cX7_serves 105 = .ok (.iload_n 3, 1) := by decide +kernel
theorem dX7_serves_106 : decode cX7_serves 106 = .ok (.iload_n 2, 1) := by decide +kernel
theorem dX7_serves_107 : decode cX7_serves 107 = .ok (.if_icmp .eq 14, 3) := by decide +kernel
theorem dX7_serves_110 : decode cX7_serves 110 = .ok (.aload_n 0, 1) := by decide +kernel
theorem dX7_serves_111 : decode cX7_serves 111 = .ok (.iload_n 2, 1) := by decide +kernel
theorem dX7_serves_112 : decode cX7_serves 112 = .ok (.iload_n 3, 1) := by decide +kernel
theorem dX7_serves_113 : decode cX7_serves 113 = .ok (.iload_n 1, 1) := by decide +kernel
theorem dX7_serves_114 : decode cX7_serves 114 = .ok (.bipush 64, 2) := by decide +kernel
theorem dX7_serves_116 : decode cX7_serves 116 = .ok (.invokevirtual 117, 3) := by decide +kernel
theorem dX7_serves_119 : decode cX7_serves 119 = .ok (.istore 6, 2) := by decide +kernel
theorem dX7_serves_121 : decode cX7_serves 121 = .ok (.iload_n 3, 1) := by decide +kernel
theorem dX7_serves_122 : decode cX7_serves 122 = .ok (.ireturn, 1) := by decide +kernel
theorem dX7_serve_0 : decode cX7_serve 0 = .ok (.iload_n 1, 1) := by decide +kernel
theorem dX7_serve_1 : decode cX7_serve 1 = .ok (.invokestatic 63, 3) := by decide +kernel
theorem dX7_serve_4 : decode cX7_serve 4 = .ok (.ifCond .ne 5, 3) := by decide +kernel
theorem dX7_serve_7 : decode cX7_serve 7 = .ok (.iconst (-1), 1) := by decide +kernel
theorem dX7_serve_8 : decode cX7_serve 8 = .ok (.ireturn, 1) := by decide +kernel
theorem dX7_serve_9 : decode cX7_serve 9 = .ok (.aload_n 0, 1) := by decide +kernel
theorem dX7_serve_10 : decode cX7_serve 10 = .ok (.getfield 7, 3) := by decide +kernel
theorem dX7_serve_13 : decode cX7_serve 13 = .ok (.bipush 108, 2) := by decide +kernel
theorem dX7_serve_15 : decode cX7_serve 15 = .ok (.iload_n 1, 1) := by decide +kernel
theorem dX7_serve_16 : decode cX7_serve 16 = .ok (.iadd, 1) := by decide +kernel
theorem dX7_serve_17 : decode cX7_serve 17 = .ok (.iaload, 1) := by decide +kernel
theorem dX7_serve_18 : decode cX7_serve 18 = .ok (.ifCond .ne 6, 3) := by decide +kernel
theorem dX7_serve_21 : decode cX7_serve 21 = .ok (.bipush (-4), 2) := by decide +kernel
theorem dX7_serve_23 : decode cX7_serve 23 = .ok (.ireturn, 1) := by decide +kernel
theorem dX7_serve_24 : decode cX7_serve 24 = .ok (.aload_n 0, 1) := by decide +kernel
theorem dX7_serve_25 : decode cX7_serve 25 = .ok (.invokevirtual 123, 3) := by decide +kernel
theorem dX7_serve_28 : decode cX7_serve 28 = .ok (.aload_n 0, 1) := by decide +kernel
theorem dX7_serve_29 : decode cX7_serve 29 = .ok (.iload_n 1, 1) := by decide +kernel
theorem dX7_serve_30 : decode cX7_serve 30 = .ok (.invokevirtual 142, 3) := by decide +kernel
theorem dX7_serve_33 : decode cX7_serve 33 = .ok (.istore_n 2, 1) := by decide +kernel
theorem dX7_serve_34 : decode cX7_serve 34 = .ok (.aload_n 0, 1) := by decide +kernel
theorem dX7_serve_35 : decode cX7_serve 35 = .ok (.invokevirtual 126, 3) := by decide +kernel
theorem dX7_serve_38 : decode cX7_serve 38 = .ok (.iload_n 2, 1) := by decide +kernel
theorem dX7_serve_39 : decode cX7_serve 39 = .ok (.ifCond .ge 5, 3) := by decide +kernel
theorem dX7_serve_42 : decode cX7_serve 42 = .ok (.iload_n 2, 1) := by decide +kernel
theorem dX7_serve_43 : decode cX7_serve 43 = .ok (.ireturn, 1) := by decide +kernel
theorem dX7_serve_44 : decode cX7_serve 44 = .ok (.aload_n 0, 1) := by decide +kernel
theorem dX7_serve_45 : decode cX7_serve 45 = .ok (.invokevirtual 114, 3) := by decide +kernel
theorem dX7_serve_48 : decode cX7_serve 48 = .ok (.aload_n 0, 1) := by decide +kernel
theorem dX7_serve_49 : decode cX7_serve 49 = .ok (.iload_n 1, 1) := by decide +kernel
theorem dX7_serve_50 : decode cX7_serve 50 = .ok (.invokevirtual 142, 3) := by decide +kernel
theorem dX7_serve_53 : decode cX7_serve 53 = .ok (.ireturn, 1) := by decide +kernel
theorem dX7_loansOf_0 : decode cX7_loansOf 0 = .ok (.iconst 0, 1) := by decide +kernel
theorem dX7_loansOf_1 : decode cX7_loansOf 1 = .ok (.istore_n 2, 1) := by decide +kernel
theorem dX7_loansOf_2 : decode cX7_loansOf 2 = .ok (.iconst 0, 1) := by decide +kernel
theorem dX7_loansOf_3 : decode cX7_loansOf 3 = .ok (.istore_n 3, 1) := by decide +kernel
theorem dX7_loansOf_4 : decode cX7_loansOf 4 = .ok (.iload_n 3, 1) := by decide +kernel
theorem dX7_loansOf_5 : decode cX7_loansOf 5 = .ok (.aload_n 0, 1) := by decide +kernel
theorem dX7_loansOf_6 : decode cX7_loansOf 6 = .ok (.getfield 7, 3) := by decide +kernel
theorem dX7_loansOf_9 : decode cX7_loansOf 9 = .ok (.sipush 132, 3) := by decide +kernel
theorem dX7_loansOf_12 : decode cX7_loansOf 12 = .ok (.iaload, 1) := by decide +kernel
theorem dX7_loansOf_13 : decode cX7_loansOf 13 = .ok (.if_icmp .ge 31, 3) := by decide +kernel
theorem dX7_loansOf_16 : decode cX7_loansOf 16 = .ok (.iload_n 2, 1) := by decide +kernel
theorem dX7_loansOf_17 : decode cX7_loansOf 17 = .ok (.aload_n 0, 1) := by decide +kernel
theorem dX7_loansOf_18 : decode cX7_loansOf 18 = .ok (.getfield 7, 3) := by decide +kernel
theorem dX7_loansOf_21 : decode cX7_loansOf 21 = .ok (.iload_n 3, 1) := by decide +kernel
theorem dX7_loansOf_22 : decode cX7_loansOf 22 = .ok (.iconst 3, 1) := by decide +kernel
theorem dX7_loansOf_23 : decode cX7_loansOf 23 = .ok (.invokestatic 69, 3) := by decide +kernel
theorem dX7_loansOf_26 : decode cX7_loansOf 26 = .ok (.iaload, 1) := by decide +kernel
theorem dX7_loansOf_27 : decode cX7_loansOf 27 = .ok (.iload_n 1, 1) := by decide +kernel
theorem dX7_loansOf_28 : decode cX7_loansOf 28 = .ok (.if_icmp .ne 7, 3) := by decide +kernel
theorem dX7_loansOf_31 : decode cX7_loansOf 31 = .ok (.iconst 1, 1) := by decide +kernel
theorem dX7_loansOf_32 : decode cX7_loansOf 32 = .ok (.goto 4, 3) := by decide +kernel
theorem dX7_loansOf_35 : decode cX7_loansOf 35 = .ok (.iconst 0, 1) := by decide +kernel
theorem dX7_loansOf_36 : decode cX7_loansOf 36 = .ok (.iadd, 1) := by decide +kernel
theorem dX7_loansOf_37 : decode cX7_loansOf 37 = .ok (.istore_n 2, 1) := by decide +kernel
theorem dX7_loansOf_38 : decode cX7_loansOf 38 = .ok (.iinc 3 1, 3) := by decide +kernel
theorem dX7_loansOf_41 : decode cX7_loansOf 41 = .ok (.goto (-37), 3) := by decide +kernel
theorem dX7_loansOf_44 : decode cX7_loansOf 44 = .ok (.iload_n 2, 1) := by decide +kernel
theorem dX7_loansOf_45 : decode cX7_loansOf 45 = .ok (.ireturn, 1) := by decide +kernel
theorem dX7_handOver_0 : decode cX7_handOver 0 = .ok (.iload_n 1, 1) := by decide +kernel
theorem dX7_handOver_1 : decode cX7_handOver 1 = .ok (.invokestatic 63, 3) := by decide +kernel
theorem dX7_handOver_4 : decode cX7_handOver 4 = .ok (.ifCond .eq 10, 3) := by decide +kernel
theorem dX7_handOver_7 : decode cX7_handOver 7 = .ok (.iload_n 2, 1) := by decide +kernel
theorem dX7_handOver_8 : decode cX7_handOver 8 = .ok (.invokestatic 59, 3) := by decide +kernel
theorem dX7_handOver_11 : decode cX7_handOver 11 = .ok (.ifCond .ne 5, 3) := by decide +kernel
theorem dX7_handOver_14 : decode cX7_handOver 14 = .ok (.iconst (-1), 1) := by decide +kernel
theorem dX7_handOver_15 : decode cX7_handOver 15 = .ok (.ireturn, 1) := by decide +kernel
theorem dX7_handOver_16 : decode cX7_handOver 16 = .ok (.aload_n 0, 1) := by decide +kernel
theorem dX7_handOver_17 : decode cX7_handOver 17 = .ok (.getfield 7, 3) := by decide +kernel
theorem dX7_handOver_20 : decode cX7_handOver 20 = .ok (.bipush 126, 2) := by decide +kernel
theorem dX7_handOver_22 : decode cX7_handOver 22 = .ok (.iload_n 1, 1) := by decide +kernel
theorem dX7_handOver_23 : decode cX7_handOver 23 = .ok (.iadd, 1) := by decide +kernel
theorem dX7_handOver_24 : decode cX7_handOver 24 = .ok (.iaload, 1) := by decide +kernel
theorem dX7_handOver_25 : decode cX7_handOver 25 = .ok (.istore_n 3, 1) := by decide +kernel
theorem dX7_handOver_26 : decode cX7_handOver 26 = .ok (.aload_n 0, 1) := by decide +kernel
theorem dX7_handOver_27 : decode cX7_handOver 27 = .ok (.iload_n 1, 1) := by decide +kernel
theorem dX7_handOver_28 : decode cX7_handOver 28 = .ok (.invokevirtual 145, 3) := by decide +kernel
theorem dX7_handOver_31 : decode cX7_handOver 31 = .ok (.ifCond .gt 17, 3) := by decide +kernel
theorem dX7_handOver_34 : decode cX7_handOver 34 = .ok (.aload_n 0, 1) := by decide +kernel
theorem dX7_handOver_35 : decode cX7_handOver 35 = .ok (.getfield 7, 3) := by decide +kernel
theorem dX7_handOver_38 : decode cX7_handOver 38 = .ok (.iload_n 3, 1) := by decide +kernel
theorem dX7_handOver_39 : decode cX7_handOver 39 = .ok (.iload_n 1, 1) := by decide +kernel
theorem dX7_handOver_40 : decode cX7_handOver 40 = .ok (.invokestatic 72, 3) := by decide +kernel
theorem dX7_handOver_43 : decode cX7_handOver 43 = .ok (.iaload, 1) := by decide +kernel
theorem dX7_handOver_44 : decode cX7_handOver 44 = .ok (.iconst 1, 1) := by decide +kernel
theorem dX7_handOver_45 : decode cX7_handOver 45 = .ok (.if_icmp .ne 6, 3) := by decide +kernel
theorem dX7_handOver_48 : decode cX7_handOver 48 = .ok (.bipush (-4), 2) := by decide +kernel
theorem dX7_handOver_50 : decode cX7_handOver 50 = .ok (.ireturn, 1) := by decide +kernel
theorem dX7_handOver_51 : decode cX7_handOver 51 = .ok (.iload_n 3, 1) := by decide +kernel
theorem dX7_handOver_52 : decode cX7_handOver 52 = .ok (.iload_n 2, 1) := by decide +kernel
theorem dX7_handOver_53 : decode cX7_handOver 53 = .ok (.if_icmp .ne 6, 3) := by decide +kernel
theorem dX7_handOver_56 : decode cX7_handOver 56 = .ok (.bipush (-5), 2) := by decide +kernel
theorem dX7_handOver_58 : decode cX7_handOver 58 = .ok (.ireturn, 1) := by decide +kernel
theorem dX7_handOver_59 : decode cX7_handOver 59 = .ok (.aload_n 0, 1) := by decide +kernel
theorem dX7_handOver_60 : decode cX7_handOver 60 = .ok (.invokevirtual 114, 3) := by decide +kernel
theorem dX7_handOver_63 : decode cX7_handOver 63 = .ok (.aload_n 0, 1) := by decide +kernel
theorem dX7_handOver_64 : decode cX7_handOver 64 = .ok (.getfield 7, 3) := by decide +kernel
theorem dX7_handOver_67 : decode cX7_handOver 67 = .ok (.bipush 126, 2) := by decide +kernel
theorem dX7_handOver_69 : decode cX7_handOver 69 = .ok (.iload_n 1, 1) := by decide +kernel
theorem dX7_handOver_70 : decode cX7_handOver 70 = .ok (.iadd, 1) := by decide +kernel
theorem dX7_handOver_71 : decode cX7_handOver 71 = .ok (.iload_n 2, 1) := by decide +kernel
theorem dX7_handOver_72 : decode cX7_handOver 72 = .ok (.iastore, 1) := by decide +kernel
theorem dX7_handOver_73 : decode cX7_handOver 73 = .ok (.aload_n 0, 1) := by decide +kernel
theorem dX7_handOver_74 : decode cX7_handOver 74 = .ok (.getfield 7, 3) := by decide +kernel
theorem dX7_handOver_77 : decode cX7_handOver 77 = .ok (.iload_n 3, 1) := by decide +kernel
theorem dX7_handOver_78 : decode cX7_handOver 78 = .ok (.iload_n 1, 1) := by decide +kernel
theorem dX7_handOver_79 : decode cX7_handOver 79 = .ok (.invokestatic 51, 3) := by decide +kernel
theorem dX7_handOver_82 : decode cX7_handOver 82 = .ok (.iconst 0, 1) := by decide +kernel
theorem dX7_handOver_83 : decode cX7_handOver 83 = .ok (.iastore, 1) := by decide +kernel
theorem dX7_handOver_84 : decode cX7_handOver 84 = .ok (.aload_n 0, 1) := by decide +kernel
theorem dX7_handOver_85 : decode cX7_handOver 85 = .ok (.getfield 7, 3) := by decide +kernel
theorem dX7_handOver_88 : decode cX7_handOver 88 = .ok (.iload_n 2, 1) := by decide +kernel
theorem dX7_handOver_89 : decode cX7_handOver 89 = .ok (.iload_n 1, 1) := by decide +kernel
theorem dX7_handOver_90 : decode cX7_handOver 90 = .ok (.invokestatic 51, 3) := by decide +kernel
theorem dX7_handOver_93 : decode cX7_handOver 93 = .ok (.bipush 64, 2) := by decide +kernel
theorem dX7_handOver_95 : decode cX7_handOver 95 = .ok (.iastore, 1) := by decide +kernel
theorem dX7_handOver_96 : decode cX7_handOver 96 = .ok (.iload_n 3, 1) := by decide +kernel
theorem dX7_handOver_97 : decode cX7_handOver 97 = .ok (.ireturn, 1) := by decide +kernel
theorem dX7_type_0 : decode cX7_type 0 = .ok (.aload_n 0, 1) := by decide +kernel
theorem dX7_type_1 : decode cX7_type 1 = .ok (.getfield 148, 3) := by decide +kernel
theorem dX7_type_4 : decode cX7_type 4 = .ok (.bipush 60, 2) := by decide +kernel
theorem dX7_type_6 : decode cX7_type 6 = .ok (.if_icmp .ne 6, 3) := by decide +kernel
theorem dX7_type_9 : decode cX7_type 9 = .ok (.bipush (-3), 2) := by decide +kernel
theorem dX7_type_11 : decode cX7_type 11 = .ok (.ireturn, 1) := by decide +kernel
theorem dX7_type_12 : decode cX7_type 12 = .ok (.aload_n 0, 1) := by decide +kernel
theorem dX7_type_13 : decode cX7_type 13 = .ok (.getfield 25, 3) := by decide +kernel
theorem dX7_type_16 : decode cX7_type 16 = .ok (.aload_n 0, 1) := by decide +kernel
theorem dX7_type_17 : decode cX7_type 17 = .ok (.getfield 148, 3) := by decide +kernel
theorem dX7_type_20 : decode cX7_type 20 = .ok (.iload_n 1, 1) := by decide +kernel
theorem dX7_type_21 : decode cX7_type 21 = .ok (.iastore, 1) := by decide +kernel
theorem dX7_type_22 : decode cX7_type 22 = .ok (.aload_n 0, 1) := by decide +kernel
theorem dX7_type_23 : decode cX7_type 23 = .ok (.dup, 1) := by decide +kernel
theorem dX7_type_24 : decode cX7_type 24 = .ok (.getfield 148, 3) := by decide +kernel
theorem dX7_type_27 : decode cX7_type 27 = .ok (.iconst 1, 1) := by decide +kernel
theorem dX7_type_28 : decode cX7_type 28 = .ok (.iadd, 1) := by decide +kernel
theorem dX7_type_29 : decode cX7_type 29 = .ok (.putfield 148, 3) := by decide +kernel
theorem dX7_type_32 : decode cX7_type 32 = .ok (.aload_n 0, 1) := by decide +kernel
theorem dX7_type_33 : decode cX7_type 33 = .ok (.getfield 148, 3) := by decide +kernel
theorem dX7_type_36 : decode cX7_type 36 = .ok (.ireturn, 1) := by decide +kernel
theorem dX7_clearText_0 : decode cX7_clearText 0 = .ok (.aload_n 0, 1) := by decide +kernel
theorem dX7_clearText_1 : decode cX7_clearText 1 = .ok (.getfield 148, 3) := by decide +kernel
theorem dX7_clearText_4 : decode cX7_clearText 4 = .ok (.istore_n 1, 1) := by decide +kernel
theorem dX7_clearText_5 : decode cX7_clearText 5 = .ok (.aload_n 0, 1) := by decide +kernel
theorem dX7_clearText_6 : decode cX7_clearText 6 = .ok (.iconst 0, 1) := by decide +kernel
theorem dX7_clearText_7 : decode cX7_clearText 7 = .ok (.putfield 148, 3) := by decide +kernel
theorem dX7_clearText_10 : decode cX7_clearText 10 = .ok (.iload_n 1, 1) := by decide +kernel
theorem dX7_clearText_11 : decode cX7_clearText 11 = .ok (.ireturn, 1) := by decide +kernel
theorem dX7_sign_0 : decode cX7_sign 0 = .ok (.aload_n 0, 1) := by decide +kernel
theorem dX7_sign_1 : decode cX7_sign 1 = .ok (.getfield 151, 3) := by decide +kernel
theorem dX7_sign_4 : decode cX7_sign 4 = .ok (.aload_n 0, 1) := by decide +kernel
theorem dX7_sign_5 : decode cX7_sign 5 = .ok (.getfield 148, 3) := by decide +kernel
theorem dX7_sign_8 : decode cX7_sign 8 = .ok (.if_icmp .ge 15, 3) := by decide +kernel
theorem dX7_sign_11 : decode cX7_sign 11 = .ok (.aload_n 0, 1) := by decide +kernel
theorem dX7_sign_12 : decode cX7_sign 12 = .ok (.getfield 25, 3) := by decide +kernel
theorem dX7_sign_15 : decode cX7_sign 15 = .ok (.aload_n 0, 1) := by decide +kernel
theorem dX7_sign_16 : decode cX7_sign 16 = .ok (.getfield 151, 3) := by decide +kernel
theorem dX7_sign_19 : decode cX7_sign 19 = .ok (.iaload, 1) := by decide +kernel
theorem dX7_sign_20 : decode cX7_sign 20 = .ok (.goto 4, 3) := by decide +kernel
theorem dX7_sign_23 : decode cX7_sign 23 = .ok (.iconst 0, 1) := by decide +kernel
theorem dX7_sign_24 : decode cX7_sign 24 = .ok (.istore_n 3, 1) := by decide +kernel
theorem dX7_sign_25 : decode cX7_sign 25 = .ok (.aload_n 0, 1) := by decide +kernel
theorem dX7_sign_26 : decode cX7_sign 26 = .ok (.aload_n 0, 1) := by decide +kernel
theorem dX7_sign_27 : decode cX7_sign 27 = .ok (.getfield 154, 3) := by decide +kernel
theorem dX7_sign_30 : decode cX7_sign 30 = .ok (.ifCond .ne 12, 3) := by decide +kernel
theorem dX7_sign_33 : decode cX7_sign 33 = .ok (.iload_n 3, 1) := by decide +kernel
theorem dX7_sign_34 : decode cX7_sign 34 = .ok (.iload_n 1, 1) := by decide +kernel
theorem dX7_sign_35 : decode cX7_sign 35 = .ok (.iload_n 2, 1) := by decide +kernel
theorem dX7_sign_36 : decode cX7_sign 36 = .ok (.invokestatic 55, 3) := by decide +kernel
theorem dX7_sign_39 : decode cX7_sign 39 = .ok (.ifCond .ne 7, 3) := by decide +kernel
theorem dX7_sign_42 : decode cX7_sign 42 = .ok (.iconst 1, 1) := by decide +kernel
theorem dX7_sign_43 : decode cX7_sign 43 = .ok (.goto 4, 3) := by decide +kernel
theorem dX7_sign_46 : decode cX7_sign 46 = .ok (.iconst 0, 1) := by decide +kernel
theorem dX7_sign_47 : decode cX7_sign 47 = .ok (.putfield 154, 3) := by decide +kernel
theorem dX7_sign_50 : decode cX7_sign 50 = .ok (.aload_n 0, 1) := by decide +kernel
theorem dX7_sign_51 : decode cX7_sign 51 = .ok (.dup, 1) := by decide +kernel
theorem dX7_sign_52 : decode cX7_sign 52 = .ok (.getfield 151, 3) := by decide +kernel
theorem dX7_sign_55 : decode cX7_sign 55 = .ok (.aload_n 0, 1) := by decide +kernel
theorem dX7_sign_56 : decode cX7_sign 56 = .ok (.getfield 154, 3) := by decide +kernel
theorem dX7_sign_59 : decode cX7_sign 59 = .ok (.ifCond .eq 7, 3) := by decide +kernel
theorem dX7_sign_62 : decode cX7_sign 62 = .ok (.iconst 0, 1) := by decide +kernel
theorem dX7_sign_63 : decode cX7_sign 63 = .ok (.goto 4, 3) := by decide +kernel
theorem dX7_sign_66 : decode cX7_sign 66 = .ok (.iconst 1, 1) := by decide +kernel
theorem dX7_sign_67 : decode cX7_sign 67 = .ok (.iadd, 1) := by decide +kernel
theorem dX7_sign_68 : decode cX7_sign 68 = .ok (.putfield 151, 3) := by decide +kernel
theorem dX7_sign_71 : decode cX7_sign 71 = .ok (.iload_n 3, 1) := by decide +kernel
theorem dX7_sign_72 : decode cX7_sign 72 = .ok (.ireturn, 1) := by decide +kernel
theorem dX7_digit_0 : decode cX7_digit 0 = .ok (.aload_n 0, 1) := by decide +kernel
theorem dX7_digit_1 : decode cX7_digit 1 = .ok (.bipush 48, 2) := by decide +kernel
theorem dX7_digit_3 : decode cX7_digit 3 = .ok (.bipush 53, 2) := by decide +kernel
theorem dX7_digit_5 : decode cX7_digit 5 = .ok (.invokevirtual 158, 3) := by decide +kernel
theorem dX7_digit_8 : decode cX7_digit 8 = .ok (.bipush 48, 2) := by decide +kernel
theorem dX7_digit_10 : decode cX7_digit 10 = .ok (.isub, 1) := by decide +kernel
theorem dX7_digit_11 : decode cX7_digit 11 = .ok (.ireturn, 1) := by decide +kernel
theorem dX7_number_0 : decode cX7_number 0 = .ok (.aload_n 0, 1) := by decide +kernel
theorem dX7_number_1 : decode cX7_number 1 = .ok (.bipush 48, 2) := by decide +kernel
theorem dX7_number_3 : decode cX7_number 3 = .ok (.iload_n 1, 1) := by decide +kernel
theorem dX7_number_4 : decode cX7_number 4 = .ok (.iadd, 1) := by decide +kernel
theorem dX7_number_5 : decode cX7_number 5 = .ok (.bipush 57, 2) := by decide +kernel
theorem dX7_number_7 : decode cX7_number 7 = .ok (.invokevirtual 158, 3) := by decide +kernel
theorem dX7_number_10 : decode cX7_number 10 = .ok (.bipush 48, 2) := by decide +kernel
theorem dX7_number_12 : decode cX7_number 12 = .ok (.isub, 1) := by decide +kernel
theorem dX7_number_13 : decode cX7_number 13 = .ok (.istore_n 3, 1) := by decide +kernel
theorem dX7_number_14 : decode cX7_number 14 = .ok (.aload_n 0, 1) := by decide +kernel
theorem dX7_number_15 : decode cX7_number 15 = .ok (.getfield 154, 3) := by decide +kernel
theorem dX7_number_18 : decode cX7_number 18 = .ok (.ifCond .ne 78, 3) := by decide +kernel
theorem dX7_number_21 : decode cX7_number 21 = .ok (.iload_n 3, 1) := by decide +kernel
theorem dX7_number_22 : decode cX7_number 22 = .ok (.ifCond .le 74, 3) := by decide +kernel
theorem dX7_number_25 : decode cX7_number 25 = .ok (.aload_n 0, 1) := by decide +kernel
theorem dX7_number_26 : decode cX7_number 26 = .ok (.getfield 151, 3) := by decide +kernel
theorem dX7_number_29 : decode cX7_number 29 = .ok (.aload_n 0, 1) := by decide +kernel
theorem dX7_number_30 : decode cX7_number 30 = .ok (.getfield 148, 3) := by decide +kernel
theorem dX7_number_33 : decode cX7_number 33 = .ok (.if_icmp .ge 63, 3) := by decide +kernel
theorem dX7_number_36 : decode cX7_number 36 = .ok (.aload_n 0, 1) := by decide +kernel
theorem dX7_number_37 : decode cX7_number 37 = .ok (.getfield 25, 3) := by decide +kernel
theorem dX7_number_40 : decode cX7_number 40 = .ok (.aload_n 0, 1) := by decide +kernel
theorem dX7_number_41 : decode cX7_number 41 = .ok (.getfield 151, 3) := by decide +kernel
theorem dX7_number_44 : decode cX7_number 44 = .ok (.iaload, 1) := by decide +kernel
theorem dX7_number_45 : decode cX7_number 45 = .ok (.bipush 48, 2) := by decide +kernel
theorem dX7_number_47 : decode cX7_number 47 = .ok (.bipush 57, 2) := by decide +kernel
theorem dX7_number_49 : decode cX7_number 49 = .ok (.invokestatic 55, 3) := by decide +kernel
theorem dX7_number_52 : decode cX7_number 52 = .ok (.ifCond .eq 44, 3) := by decide +kernel
theorem dX7_number_55 : decode cX7_number 55 = .ok (.bipush 10, 2) := by decide +kernel
theorem dX7_number_57 : decode cX7_number 57 = .ok (.iload_n 3, 1) := by decide +kernel
theorem dX7_number_58 : decode cX7_number 58 = .ok (.imul, 1) := by decide +kernel
theorem dX7_number_59 : decode cX7_number 59 = .ok (.aload_n 0, 1) := by decide +kernel
theorem dX7_number_60 : decode cX7_number 60 = .ok (.getfield 25, 3) := by decide +kernel
theorem dX7_number_63 : decode cX7_number 63 = .ok (.aload_n 0, 1) := by decide +kernel
theorem dX7_number_64 : decode cX7_number 64 = .ok (.getfield 151, 3) := by decide +kernel
theorem dX7_number_67 : decode cX7_number 67 = .ok (.iaload, 1) := by decide +kernel
theorem dX7_number_68 : decode cX7_number 68 = .ok (.iadd, 1) := by decide +kernel
theorem dX7_number_69 : decode cX7_number 69 = .ok (.bipush 48, 2) := by decide +kernel
theorem dX7_number_71 : decode cX7_number 71 = .ok (.isub, 1) := by decide +kernel
theorem dX7_number_72 : decode cX7_number 72 = .ok (.iload_n 2, 1) := by decide +kernel
theorem dX7_number_73 : decode cX7_number 73 = .ok (.if_icmp .gt 23, 3) := by decide +kernel
theorem dX7_number_76 : decode cX7_number 76 = .ok (.bipush 10, 2) := by decide +kernel
theorem dX7_number_78 : decode cX7_number 78 = .ok (.iload_n 3, 1) := by decide +kernel
theorem dX7_number_79 : decode cX7_number 79 = .ok (.imul, 1) := by decide +kernel
theorem dX7_number_80 : decode cX7_number 80 = .ok (.aload_n 0, 1) := by decide +kernel
theorem dX7_number_81 : decode cX7_number 81 = .ok (.bipush 48, 2) := by decide +kernel
theorem dX7_number_83 : decode cX7_number 83 = .ok (.bipush 57, 2) := by decide +kernel
theorem dX7_number_85 : decode cX7_number 85 = .ok (.invokevirtual 158, 3) := by decide +kernel
theorem dX7_number_88 : decode cX7_number 88 = .ok (.iadd, 1) := by decide +kernel
theorem dX7_number_89 : decode cX7_number 89 = .ok (.bipush 48, 2) := by decide +kernel
theorem dX7_number_91 : decode cX7_number 91 = .ok (.isub, 1) := by decide +kernel
theorem dX7_number_92 : decode cX7_number 92 = .ok (.istore_n 3, 1) := by decide +kernel
theorem dX7_number_93 : decode cX7_number 93 = .ok (.goto (-79), 3) := by decide +kernel
theorem dX7_number_96 : decode cX7_number 96 = .ok (.iload_n 3, 1) := by decide +kernel
theorem dX7_number_97 : decode cX7_number 97 = .ok (.ireturn, 1) := by decide +kernel
theorem dX7_order_0 : decode cX7_order 0 = .ok (.aload_n 0, 1) := by decide +kernel
theorem dX7_order_1 : decode cX7_order 1 = .ok (.getfield 151, 3) := by decide +kernel
theorem dX7_order_4 : decode cX7_order 4 = .ok (.aload_n 0, 1) := by decide +kernel
theorem dX7_order_5 : decode cX7_order 5 = .ok (.getfield 148, 3) := by decide +kernel
theorem dX7_order_8 : decode cX7_order 8 = .ok (.if_icmp .ge 15, 3) := by decide +kernel
theorem dX7_order_11 : decode cX7_order 11 = .ok (.aload_n 0, 1) := by decide +kernel
theorem dX7_order_12 : decode cX7_order 12 = .ok (.getfield 25, 3) := by decide +kernel
theorem dX7_order_15 : decode cX7_order 15 = .ok (.aload_n 0, 1) := by decide +kernel
theorem dX7_order_16 : decode cX7_order 16 = .ok (.getfield 151, 3) := by decide +kernel
theorem dX7_order_19 : decode cX7_order 19 = .ok (.iaload, 1) := by decide +kernel
theorem dX7_order_20 : decode cX7_order 20 = .ok (.goto 4, 3) := by decide +kernel
theorem dX7_order_23 : decode cX7_order 23 = .ok (.iconst 0, 1) := by decide +kernel
theorem dX7_order_24 : decode cX7_order 24 = .ok (.istore_n 1, 1) := by decide +kernel
theorem dX7_order_25 : decode cX7_order 25 = .ok (.aload_n 0, 1) := by decide +kernel
theorem dX7_order_26 : decode cX7_order 26 = .ok (.aload_n 0, 1) := by decide +kernel
theorem dX7_order_27 : decode cX7_order 27 = .ok (.getfield 154, 3) := by decide +kernel
theorem dX7_order_30 : decode cX7_order 30 = .ok (.ifCond .ne 27, 3) := by decide +kernel
theorem dX7_order_33 : decode cX7_order 33 = .ok (.iload_n 1, 1) := by decide +kernel
theorem dX7_order_34 : decode cX7_order 34 = .ok (.bipush 108, 2) := by decide +kernel
theorem dX7_order_36 : decode cX7_order 36 = .ok (.if_icmp .eq 25, 3) := by decide +kernel
theorem dX7_order_39 : decode cX7_order 39 = .ok (.iload_n 1, 1) := by decide +kernel
theorem dX7_order_40 : decode cX7_order 40 = .ok (.bipush 98, 2) := by decide +kernel
theorem dX7_order_42 : decode cX7_order 42 = .ok (.if_icmp .eq 19, 3) := by decide +kernel
theorem dX7_order_45 : decode cX7_order 45 = .ok (.iload_n 1, 1) := by decide +kernel
theorem dX7_order_46 : decode cX7_order 46 = .ok (.bipush 119, 2) := by decide +kernel
theorem dX7_order_48 : decode cX7_order 48 = .ok (.if_icmp .eq 13, 3) := by decide +kernel
theorem dX7_order_51 : decode cX7_order 51 = .ok (.iload_n 1, 1) := by decide +kernel
theorem dX7_order_52 : decode cX7_order 52 = .ok (.bipush 103, 2) := by decide +kernel
theorem dX7_order_54 : decode cX7_order 54 = .ok (.if_icmp .eq 7, 3) := by decide +kernel
theorem dX7_order_57 : decode cX7_order 57 = .ok (.iconst 1, 1) := by decide +kernel
theorem dX7_order_58 : decode cX7_order 58 = .ok (.goto 4, 3) := by decide +kernel
theorem dX7_order_61 : decode cX7_order 61 = .ok (.iconst 0, 1) := by decide +kernel
theorem dX7_order_62 : decode cX7_order 62 = .ok (.putfield 154, 3) := by decide +kernel
theorem dX7_order_65 : decode cX7_order 65 = .ok (.aload_n 0, 1) := by decide +kernel
theorem dX7_order_66 : decode cX7_order 66 = .ok (.dup, 1) := by decide +kernel
theorem dX7_order_67 : decode cX7_order 67 = .ok (.getfield 151, 3) := by decide +kernel
theorem dX7_order_70 : decode cX7_order 70 = .ok (.aload_n 0, 1) := by decide +kernel
theorem dX7_order_71 : decode cX7_order 71 = .ok (.getfield 154, 3) := by decide +kernel
theorem dX7_order_74 : decode cX7_order 74 = .ok (.ifCond .eq 7, 3) := by decide +kernel
theorem dX7_order_77 : decode cX7_order 77 = .ok (.iconst 0, 1) := by decide +kernel
theorem dX7_order_78 : decode cX7_order 78 = .ok (.goto 4, 3) := by decide +kernel
theorem dX7_order_81 : decode cX7_order 81 = .ok (.iconst 1, 1) := by decide +kernel
theorem dX7_order_82 : decode cX7_order 82 = .ok (.iadd, 1) := by decide +kernel
theorem dX7_order_83 : decode cX7_order 83 = .ok (.putfield 151, 3) := by decide +kernel
theorem dX7_order_86 : decode cX7_order 86 = .ok (.aload_n 0, 1) := by decide +kernel
theorem dX7_order_87 : decode cX7_order 87 = .ok (.getfield 45, 3) := by decide +kernel
theorem dX7_order_90 : decode cX7_order 90 = .ok (.iconst 0, 1) := by decide +kernel
theorem dX7_order_91 : decode cX7_order 91 = .ok (.iload_n 1, 1) := by decide +kernel
theorem dX7_order_92 : decode cX7_order 92 = .ok (.iastore, 1) := by decide +kernel
theorem dX7_order_93 : decode cX7_order 93 = .ok (.aload_n 0, 1) := by decide +kernel
theorem dX7_order_94 : decode cX7_order 94 = .ok (.getfield 45, 3) := by decide +kernel
theorem dX7_order_97 : decode cX7_order 97 = .ok (.iconst 1, 1) := by decide +kernel
theorem dX7_order_98 : decode cX7_order 98 = .ok (.iload_n 1, 1) := by decide +kernel
theorem dX7_order_99 : decode cX7_order 99 = .ok (.bipush 98, 2) := by decide +kernel
theorem dX7_order_101 : decode cX7_order 101 = .ok (.if_icmp .ne 14, 3) := by decide +kernel
theorem dX7_order_104 : decode cX7_order 104 = .ok (.aload_n 0, 1) := by decide +kernel
theorem dX7_order_105 : decode cX7_order 105 = .ok (.iconst 0, 1) := by decide +kernel
theorem dX7_order_106 : decode cX7_order 106 = .ok (.sipush 999, 3) := by decide +kernel
theorem dX7_order_109 : decode cX7_order 109 = .ok (.invokevirtual 161, 3) := by decide +kernel
theorem dX7_order_112 : decode cX7_order 112 = .ok (.goto 7, 3) := by decide +kernel
theorem dX7_order_115 : decode cX7_order 115 = .ok (.aload_n 0, 1) := by decide +kernel
theorem dX7_order_116 : decode cX7_order 116 = .ok (.invokevirtual 164, 3) := by decide +kernel
theorem dX7_order_119 : decode cX7_order 119 = .ok (.iastore, 1) := by decide +kernel
theorem dX7_order_120 : decode cX7_order 120 = .ok (.iload_n 1, 1) := by decide +kernel
theorem dX7_order_121 : decode cX7_order 121 = .ok (.bipush 108, 2) := by decide +kernel
theorem dX7_order_123 : decode cX7_order 123 = .ok (.if_icmp .ne 14, 3) := by decide +kernel
theorem dX7_order_126 : decode cX7_order 126 = .ok (.aload_n 0, 1) := by decide +kernel
theorem dX7_order_127 : decode cX7_order 127 = .ok (.bipush 62, 2) := by decide +kernel
theorem dX7_order_129 : decode cX7_order 129 = .ok (.bipush 62, 2) := by decide +kernel
theorem dX7_order_131 : decode cX7_order 131 = .ok (.invokevirtual 158, 3) := by decide +kernel
theorem dX7_order_134 : decode cX7_order 134 = .ok (.goto 4, 3) := by decide +kernel
theorem dX7_order_137 : decode cX7_order 137 = .ok (.iconst 0, 1) := by decide +kernel
theorem dX7_order_138 : decode cX7_order 138 = .ok (.istore_n 2, 1) := by decide +kernel
theorem dX7_order_139 : decode cX7_order 139 = .ok (.aload_n 0, 1) := by decide +kernel
theorem dX7_order_140 : decode cX7_order 140 = .ok (.getfield 45, 3) := by decide +kernel
theorem dX7_order_143 : decode cX7_order 143 = .ok (.iconst 2, 1) := by decide +kernel
theorem dX7_order_144 : decode cX7_order 144 = .ok (.iload_n 1, 1) := by decide +kernel
theorem dX7_order_145 : decode cX7_order 145 = .ok (.bipush 108, 2) := by decide +kernel
theorem dX7_order_147 : decode cX7_order 147 = .ok (.if_icmp .ne 10, 3) := by decide +kernel
theorem dX7_order_150 : decode cX7_order 150 = .ok (.aload_n 0, 1) := by decide +kernel
theorem dX7_order_151 : decode cX7_order 151 = .ok (.invokevirtual 164, 3) := by decide +kernel
theorem dX7_order_154 : decode cX7_order 154 = .ok (.goto 4, 3) := by decide +kernel
theorem dX7_order_157 : decode cX7_order 157 = .ok (.iconst 0, 1) := by decide +kernel
theorem dX7_order_158 : decode cX7_order 158 = .ok (.iastore, 1) := by decide +kernel
theorem dX7_order_159 : decode cX7_order 159 = .ok (.iload_n 1, 1) := by decide +kernel
theorem dX7_order_160 : decode cX7_order 160 = .ok (.bipush 98, 2) := by decide +kernel
theorem dX7_order_162 : decode cX7_order 162 = .ok (.if_icmp .ne 7, 3) := by decide +kernel
theorem dX7_order_165 : decode cX7_order 165 = .ok (.iconst 0, 1) := by decide +kernel
theorem dX7_order_166 : decode cX7_order 166 = .ok (.goto 11, 3) := by decide +kernel
theorem dX7_order_169 : decode cX7_order 169 = .ok (.aload_n 0, 1) := by decide +kernel
theorem dX7_order_170 : decode cX7_order 170 = .ok (.bipush 58, 2) := by decide +kernel
theorem dX7_order_172 : decode cX7_order 172 = .ok (.bipush 58, 2) := by decide +kernel
theorem dX7_order_174 : decode cX7_order 174 = .ok (.invokevirtual 158, 3) := by decide +kernel
theorem dX7_order_177 : decode cX7_order 177 = .ok (.istore_n 2, 1) := by decide +kernel
theorem dX7_order_178 : decode cX7_order 178 = .ok (.aload_n 0, 1) := by decide +kernel
theorem dX7_order_179 : decode cX7_order 179 = .ok (.getfield 45, 3) := by decide +kernel
theorem dX7_order_182 : decode cX7_order 182 = .ok (.iconst 3, 1) := by decide +kernel
theorem dX7_order_183 : decode cX7_order 183 = .ok (.iload_n 1, 1) := by decide +kernel
theorem dX7_order_184 : decode cX7_order 184 = .ok (.bipush 98, 2) := by decide +kernel
theorem dX7_order_186 : decode cX7_order 186 = .ok (.if_icmp .ne 7, 3) := by decide +kernel
theorem dX7_order_189 : decode cX7_order 189 = .ok (.iconst 0, 1) := by decide +kernel
theorem dX7_order_190 : decode cX7_order 190 = .ok (.goto 7, 3) := by decide +kernel
theorem dX7_order_193 : decode cX7_order 193 = .ok (.aload_n 0, 1) := by decide +kernel
theorem dX7_order_194 : decode cX7_order 194 = .ok (.invokevirtual 164, 3) := by decide +kernel
theorem dX7_order_197 : decode cX7_order 197 = .ok (.iastore, 1) := by decide +kernel
theorem dX7_order_198 : decode cX7_order 198 = .ok (.iload_n 1, 1) := by decide +kernel
theorem dX7_order_199 : decode cX7_order 199 = .ok (.bipush 108, 2) := by decide +kernel
theorem dX7_order_201 : decode cX7_order 201 = .ok (.if_icmp .ne 14, 3) := by decide +kernel
theorem dX7_order_204 : decode cX7_order 204 = .ok (.aload_n 0, 1) := by decide +kernel
theorem dX7_order_205 : decode cX7_order 205 = .ok (.bipush 47, 2) := by decide +kernel
theorem dX7_order_207 : decode cX7_order 207 = .ok (.bipush 47, 2) := by decide +kernel
theorem dX7_order_209 : decode cX7_order 209 = .ok (.invokevirtual 158, 3) := by decide +kernel
theorem dX7_order_212 : decode cX7_order 212 = .ok (.goto 21, 3) := by decide +kernel
theorem dX7_order_215 : decode cX7_order 215 = .ok (.iload_n 1, 1) := by decide +kernel
theorem dX7_order_216 : decode cX7_order 216 = .ok (.bipush 119, 2) := by decide +kernel
theorem dX7_order_218 : decode cX7_order 218 = .ok (.if_icmp .ne 14, 3) := by decide +kernel
theorem dX7_order_221 : decode cX7_order 221 = .ok (.aload_n 0, 1) := by decide +kernel
theorem dX7_order_222 : decode cX7_order 222 = .ok (.bipush 61, 2) := by decide +kernel
theorem dX7_order_224 : decode cX7_order 224 = .ok (.bipush 61, 2) := by decide +kernel
theorem dX7_order_226 : decode cX7_order 226 = .ok (.invokevirtual 158, 3) := by decide +kernel
theorem dX7_order_229 : decode cX7_order 229 = .ok (.goto 4, 3) := by decide +kernel
theorem dX7_order_232 : decode cX7_order 232 = .ok (.iconst 0, 1) := by decide +kernel
theorem dX7_order_233 : decode cX7_order 233 = .ok (.istore_n 2, 1) := by decide +kernel
theorem dX7_order_234 : decode cX7_order 234 = .ok (.aload_n 0, 1) := by decide +kernel
theorem dX7_order_235 : decode cX7_order 235 = .ok (.getfield 45, 3) := by decide +kernel
theorem dX7_order_238 : decode cX7_order 238 = .ok (.iconst 4, 1) := by decide +kernel
theorem dX7_order_239 : decode cX7_order 239 = .ok (.iload_n 1, 1) := by decide +kernel
theorem dX7_order_240 : decode cX7_order 240 = .ok (.bipush 108, 2) := by decide +kernel
theorem dX7_order_242 : decode cX7_order 242 = .ok (.if_icmp .ne 13, 3) := by decide +kernel
theorem dX7_order_245 : decode cX7_order 245 = .ok (.aload_n 0, 1) := by decide +kernel
theorem dX7_order_246 : decode cX7_order 246 = .ok (.iconst 1, 1) := by decide +kernel
theorem dX7_order_247 : decode cX7_order 247 = .ok (.bipush 64, 2) := by decide +kernel
theorem dX7_order_249 : decode cX7_order 249 = .ok (.invokevirtual 161, 3) := by decide +kernel
theorem dX7_order_252 : decode cX7_order 252 = .ok (.goto 21, 3) := by decide +kernel
theorem dX7_order_255 : decode cX7_order 255 = .ok (.iload_n 1, 1) := by decide +kernel
theorem dX7_order_256 : decode cX7_order 256 = .ok (.bipush 119, 2) := by decide +kernel
theorem dX7_order_258 : decode cX7_order 258 = .ok (.if_icmp .ne 14, 3) := by decide +kernel
theorem dX7_order_261 : decode cX7_order 261 = .ok (.aload_n 0, 1) := by decide +kernel
theorem dX7_order_262 : decode cX7_order 262 = .ok (.iconst 0, 1) := by decide +kernel
theorem dX7_order_263 : decode cX7_order 263 = .ok (.sipush 999, 3) := by decide +kernel
theorem dX7_order_266 : decode cX7_order 266 = .ok (.invokevirtual 161, 3) := by decide +kernel
theorem dX7_order_269 : decode cX7_order 269 = .ok (.goto 4, 3) := by decide +kernel
theorem dX7_order_272 : decode cX7_order 272 = .ok (.iconst 0, 1) := by decide +kernel
theorem dX7_order_273 : decode cX7_order 273 = .ok (.iastore, 1) := by decide +kernel
theorem dX7_order_274 : decode cX7_order 274 = .ok (.return_, 1) := by decide +kernel
theorem dX7_does_0 : decode cX7_does 0 = .ok (.aload_n 0, 1) := by decide +kernel
theorem dX7_does_1 : decode cX7_does 1 = .ok (.getfield 45, 3) := by decide +kernel
theorem dX7_does_4 : decode cX7_does 4 = .ok (.iconst 0, 1) := by decide +kernel
theorem dX7_does_5 : decode cX7_does 5 = .ok (.iaload, 1) := by decide +kernel
theorem dX7_does_6 : decode cX7_does 6 = .ok (.istore_n 1, 1) := by decide +kernel
theorem dX7_does_7 : decode cX7_does 7 = .ok (.aload_n 0, 1) := by decide +kernel
theorem dX7_does_8 : decode cX7_does 8 = .ok (.getfield 45, 3) := by decide +kernel
theorem dX7_does_11 : decode cX7_does 11 = .ok (.iconst 1, 1) := by decide +kernel
theorem dX7_does_12 : decode cX7_does 12 = .ok (.iaload, 1) := by decide +kernel
theorem dX7_does_13 : decode cX7_does 13 = .ok (.istore_n 2, 1) := by decide +kernel
theorem dX7_does_14 : decode cX7_does 14 = .ok (.aload_n 0, 1) := by decide +kernel
theorem dX7_does_15 : decode cX7_does 15 = .ok (.getfield 45, 3) := by decide +kernel
theorem dX7_does_18 : decode cX7_does 18 = .ok (.iconst 3, 1) := by decide +kernel
theorem dX7_does_19 : decode cX7_does 19 = .ok (.iaload, 1) := by decide +kernel
theorem dX7_does_20 : decode cX7_does 20 = .ok (.istore_n 3, 1) := by decide +kernel
theorem dX7_does_21 : decode cX7_does 21 = .ok (.iload_n 1, 1) := by decide +kernel
theorem dX7_does_22 : decode cX7_does 22 = .ok (.bipush 108, 2) := by decide +kernel
theorem dX7_does_24 : decode cX7_does 24 = .ok (.if_icmp .ne 24, 3) := by decide +kernel
theorem dX7_does_27 : decode cX7_does 27 = .ok (.aload_n 0, 1) := by decide +kernel
theorem dX7_does_28 : decode cX7_does 28 = .ok (.iload_n 2, 1) := by decide +kernel
theorem dX7_does_29 : decode cX7_does 29 = .ok (.aload_n 0, 1) := by decide +kernel
theorem dX7_does_30 : decode cX7_does 30 = .ok (.getfield 45, 3) := by decide +kernel
theorem dX7_does_33 : decode cX7_does 33 = .ok (.iconst 2, 1) := by decide +kernel
theorem dX7_does_34 : decode cX7_does 34 = .ok (.iaload, 1) := by decide +kernel
theorem dX7_does_35 : decode cX7_does 35 = .ok (.iload_n 3, 1) := by decide +kernel
theorem dX7_does_36 : decode cX7_does 36 = .ok (.aload_n 0, 1) := by decide +kernel
theorem dX7_does_37 : decode cX7_does 37 = .ok (.getfield 45, 3) := by decide +kernel
theorem dX7_does_40 : decode cX7_does 40 = .ok (.iconst 4, 1) := by decide +kernel
theorem dX7_does_41 : decode cX7_does 41 = .ok (.iaload, 1) := by decide +kernel
theorem dX7_does_42 : decode cX7_does 42 = .ok (.invokevirtual 110, 3) := by decide +kernel
theorem dX7_does_45 : decode cX7_does 45 = .ok (.goto 39, 3) := by decide +kernel
theorem dX7_does_48 : decode cX7_does 48 = .ok (.iload_n 1, 1) := by decide +kernel
theorem dX7_does_49 : decode cX7_does 49 = .ok (.bipush 98, 2) := by decide +kernel
theorem dX7_does_51 : decode cX7_does 51 = .ok (.if_icmp .ne 11, 3) := by decide +kernel
theorem dX7_does_54 : decode cX7_does 54 = .ok (.aload_n 0, 1) := by decide +kernel
theorem dX7_does_55 : decode cX7_does 55 = .ok (.iload_n 2, 1) := by decide +kernel
theorem dX7_does_56 : decode cX7_does 56 = .ok (.invokevirtual 120, 3) := by decide +kernel
theorem dX7_does_59 : decode cX7_does 59 = .ok (.goto 25, 3) := by decide +kernel
theorem dX7_does_62 : decode cX7_does 62 = .ok (.iload_n 1, 1) := by decide +kernel
theorem dX7_does_63 : decode cX7_does 63 = .ok (.bipush 119, 2) := by decide +kernel
theorem dX7_does_65 : decode cX7_does 65 = .ok (.if_icmp .ne 18, 3) := by decide +kernel
theorem dX7_does_68 : decode cX7_does 68 = .ok (.aload_n 0, 1) := by decide +kernel
theorem dX7_does_69 : decode cX7_does 69 = .ok (.iload_n 2, 1) := by decide +kernel
theorem dX7_does_70 : decode cX7_does 70 = .ok (.iload_n 3, 1) := by decide +kernel
theorem dX7_does_71 : decode cX7_does 71 = .ok (.aload_n 0, 1) := by decide +kernel
theorem dX7_does_72 : decode cX7_does 72 = .ok (.getfield 45, 3) := by decide +kernel
theorem dX7_does_75 : decode cX7_does 75 = .ok (.iconst 4, 1) := by decide +kernel
theorem dX7_does_76 : decode cX7_does 76 = .ok (.iaload, 1) := by decide +kernel
theorem dX7_does_77 : decode cX7_does 77 = .ok (.invokevirtual 129, 3) := by decide +kernel
theorem dX7_does_80 : decode cX7_does 80 = .ok (.goto 4, 3) := by decide +kernel
theorem dX7_does_83 : decode cX7_does 83 = .ok (.iconst 0, 1) := by decide +kernel
theorem dX7_does_84 : decode cX7_does 84 = .ok (.istore 4, 2) := by decide +kernel
theorem dX7_does_86 : decode cX7_does 86 = .ok (.iload 4, 2) := by decide +kernel
theorem dX7_does_88 : decode cX7_does 88 = .ok (.ifCond .ge 6, 3) := by decide +kernel
theorem dX7_does_91 : decode cX7_does 91 = .ok (.iload 4, 2) := by decide +kernel
theorem dX7_does_93 : decode cX7_does 93 = .ok (.ireturn, 1) := by decide +kernel
theorem dX7_does_94 : decode cX7_does 94 = .ok (.iload_n 1, 1) := by decide +kernel
theorem dX7_does_95 : decode cX7_does 95 = .ok (.bipush 108, 2) := by decide +kernel
theorem dX7_does_97 : decode cX7_does 97 = .ok (.if_icmp .ne 24, 3) := by decide +kernel
theorem dX7_does_100 : decode cX7_does 100 = .ok (.aload_n 0, 1) := by decide +kernel
theorem dX7_does_101 : decode cX7_does 101 = .ok (.iload_n 2, 1) := by decide +kernel
theorem dX7_does_102 : decode cX7_does 102 = .ok (.aload_n 0, 1) := by decide +kernel
theorem dX7_does_103 : decode cX7_does 103 = .ok (.getfield 45, 3) := by decide +kernel
theorem dX7_does_106 : decode cX7_does 106 = .ok (.iconst 2, 1) := by decide +kernel
theorem dX7_does_107 : decode cX7_does 107 = .ok (.iaload, 1) := by decide +kernel
theorem dX7_does_108 : decode cX7_does 108 = .ok (.iload_n 3, 1) := by decide +kernel
theorem dX7_does_109 : decode cX7_does 109 = .ok (.aload_n 0, 1) := by decide +kernel
theorem dX7_does_110 : decode cX7_does 110 = .ok (.getfield 45, 3) := by decide +kernel
theorem dX7_does_113 : decode cX7_does 113 = .ok (.iconst 4, 1) := by decide +kernel
theorem dX7_does_114 : decode cX7_does 114 = .ok (.iaload, 1) := by decide +kernel
theorem dX7_does_115 : decode cX7_does 115 = .ok (.invokevirtual 117, 3) := by decide +kernel
theorem dX7_does_118 : decode cX7_does 118 = .ok (.goto 47, 3) := by decide +kernel
theorem dX7_does_121 : decode cX7_does 121 = .ok (.iload_n 1, 1) := by decide +kernel
theorem dX7_does_122 : decode cX7_does 122 = .ok (.bipush 98, 2) := by decide +kernel
theorem dX7_does_124 : decode cX7_does 124 = .ok (.if_icmp .ne 15, 3) := by decide +kernel
theorem dX7_does_127 : decode cX7_does 127 = .ok (.aload_n 0, 1) := by decide +kernel
theorem dX7_does_128 : decode cX7_does 128 = .ok (.aload_n 0, 1) := by decide +kernel
theorem dX7_does_129 : decode cX7_does 129 = .ok (.iload_n 2, 1) := by decide +kernel
theorem dX7_does_130 : decode cX7_does 130 = .ok (.invokevirtual 82, 3) := by decide +kernel
theorem dX7_does_133 : decode cX7_does 133 = .ok (.invokevirtual 96, 3) := by decide +kernel
theorem dX7_does_136 : decode cX7_does 136 = .ok (.goto 29, 3) := by decide +kernel
theorem dX7_does_139 : decode cX7_does 139 = .ok (.iload_n 1, 1) := by decide +kernel
theorem dX7_does_140 : decode cX7_does 140 = .ok (.bipush 119, 2) := by decide +kernel
theorem dX7_does_142 : decode cX7_does 142 = .ok (.if_icmp .ne 17, 3) := by decide +kernel
theorem dX7_does_145 : decode cX7_does 145 = .ok (.aload_n 0, 1) := by decide +kernel
theorem dX7_does_146 : decode cX7_does 146 = .ok (.iload_n 3, 1) := by decide +kernel
theorem dX7_does_147 : decode cX7_does 147 = .ok (.aload_n 0, 1) := by decide +kernel
theorem dX7_does_148 : decode cX7_does 148 = .ok (.getfield 45, 3) := by decide +kernel
theorem dX7_does_151 : decode cX7_does 151 = .ok (.iconst 4, 1) := by decide +kernel
theorem dX7_does_152 : decode cX7_does 152 = .ok (.iaload, 1) := by decide +kernel
theorem dX7_does_153 : decode cX7_does 153 = .ok (.invokevirtual 132, 3) := by decide +kernel
theorem dX7_does_156 : decode cX7_does 156 = .ok (.goto 9, 3) := by decide +kernel
theorem dX7_does_159 : decode cX7_does 159 = .ok (.aload_n 0, 1) := by decide +kernel
theorem dX7_does_160 : decode cX7_does 160 = .ok (.iload_n 2, 1) := by decide +kernel
theorem dX7_does_161 : decode cX7_does 161 = .ok (.iload_n 3, 1) := by decide +kernel
theorem dX7_does_162 : decode cX7_does 162 = .ok (.invokevirtual 99, 3) := by decide +kernel
theorem dX7_does_165 : decode cX7_does 165 = .ok (.istore 5, 2) := by decide +kernel
theorem dX7_does_167 : decode cX7_does 167 = .ok (.iconst 0, 1) := by decide +kernel
theorem dX7_does_168 : decode cX7_does 168 = .ok (.ireturn, 1) := by decide +kernel
theorem dX7_go_0 : decode cX7_go 0 = .ok (.aload_n 0, 1) := by decide +kernel
theorem dX7_go_1 : decode cX7_go 1 = .ok (.iconst 0, 1) := by decide +kernel
theorem dX7_go_2 : decode cX7_go 2 = .ok (.putfield 151, 3) := by decide +kernel
theorem dX7_go_5 : decode cX7_go 5 = .ok (.aload_n 0, 1) := by decide +kernel
theorem dX7_go_6 : decode cX7_go 6 = .ok (.iconst 0, 1) := by decide +kernel
theorem dX7_go_7 : decode cX7_go 7 = .ok (.putfield 154, 3) := by decide +kernel
theorem dX7_go_10 : decode cX7_go 10 = .ok (.aload_n 0, 1) := by decide +kernel
theorem dX7_go_11 : decode cX7_go 11 = .ok (.iconst 0, 1) := by decide +kernel
theorem dX7_go_12 : decode cX7_go 12 = .ok (.putfield 168, 3) := by decide +kernel
theorem dX7_go_15 : decode cX7_go 15 = .ok (.iconst 0, 1) := by decide +kernel
theorem dX7_go_16 : decode cX7_go 16 = .ok (.istore_n 2, 1) := by decide +kernel
theorem dX7_go_17 : decode cX7_go 17 = .ok (.iconst 1, 1) := by decide +kernel
theorem dX7_go_18 : decode cX7_go 18 = .ok (.istore_n 3, 1) := by decide +kernel
theorem dX7_go_19 : decode cX7_go 19 = .ok (.iload_n 3, 1) := by decide +kernel
theorem dX7_go_20 : decode cX7_go 20 = .ok (.ifCond .eq 99, 3) := by decide +kernel
theorem dX7_go_23 : decode cX7_go 23 = .ok (.aload_n 0, 1) := by decide +kernel
theorem dX7_go_24 : decode cX7_go 24 = .ok (.invokevirtual 171, 3) := by decide +kernel
theorem dX7_go_27 : decode cX7_go 27 = .ok (.aload_n 0, 1) := by decide +kernel
theorem dX7_go_28 : decode cX7_go 28 = .ok (.iload_n 1, 1) := by decide +kernel
theorem dX7_go_29 : decode cX7_go 29 = .ok (.ifCond .eq 10, 3) := by decide +kernel
theorem dX7_go_32 : decode cX7_go 32 = .ok (.aload_n 0, 1) := by decide +kernel
theorem dX7_go_33 : decode cX7_go 33 = .ok (.invokevirtual 174, 3) := by decide +kernel
theorem dX7_go_36 : decode cX7_go 36 = .ok (.goto 4, 3) := by decide +kernel
theorem dX7_go_39 : decode cX7_go 39 = .ok (.iconst 0, 1) := by decide +kernel
theorem dX7_go_40 : decode cX7_go 40 = .ok (.putfield 168, 3) := by decide +kernel
theorem dX7_go_43 : decode cX7_go 43 = .ok (.iload_n 2, 1) := by decide +kernel
theorem dX7_go_44 : decode cX7_go 44 = .ok (.aload_n 0, 1) := by decide +kernel
theorem dX7_go_45 : decode cX7_go 45 = .ok (.getfield 168, 3) := by decide +kernel
theorem dX7_go_48 : decode cX7_go 48 = .ok (.ifCond .ne 7, 3) := by decide +kernel
theorem dX7_go_51 : decode cX7_go 51 = .ok (.iconst 1, 1) := by decide +kernel
theorem dX7_go_52 : decode cX7_go 52 = .ok (.goto 4, 3) := by decide +kernel
theorem dX7_go_55 : decode cX7_go 55 = .ok (.iconst 0, 1) := by decide +kernel
theorem dX7_go_56 : decode cX7_go 56 = .ok (.iadd, 1) := by decide +kernel
theorem dX7_go_57 : decode cX7_go 57 = .ok (.istore_n 2, 1) := by decide +kernel
theorem dX7_go_58 : decode cX7_go 58 = .ok (.aload_n 0, 1) := by decide +kernel
theorem dX7_go_59 : decode cX7_go 59 = .ok (.getfield 154, 3) := by decide +kernel
theorem dX7_go_62 : decode cX7_go 62 = .ok (.ifCond .ne 25, 3) := by decide +kernel
theorem dX7_go_65 : decode cX7_go 65 = .ok (.aload_n 0, 1) := by decide +kernel
theorem dX7_go_66 : decode cX7_go 66 = .ok (.getfield 168, 3) := by decide +kernel
theorem dX7_go_69 : decode cX7_go 69 = .ok (.ifCond .ne 18, 3) := by decide +kernel
theorem dX7_go_72 : decode cX7_go 72 = .ok (.aload_n 0, 1) := by decide +kernel
theorem dX7_go_73 : decode cX7_go 73 = .ok (.getfield 151, 3) := by decide +kernel
theorem dX7_go_76 : decode cX7_go 76 = .ok (.aload_n 0, 1) := by decide +kernel
theorem dX7_go_77 : decode cX7_go 77 = .ok (.getfield 148, 3) := by decide +kernel
theorem dX7_go_80 : decode cX7_go 80 = .ok (.if_icmp .ge 7, 3) := by decide +kernel
theorem dX7_go_83 : decode cX7_go 83 = .ok (.iconst 1, 1) := by decide +kernel
theorem dX7_go_84 : decode cX7_go 84 = .ok (.goto 4, 3) := by decide +kernel
theorem dX7_go_87 : decode cX7_go 87 = .ok (.iconst 0, 1) := by decide +kernel
theorem dX7_go_88 : decode cX7_go 88 = .ok (.istore_n 3, 1) := by decide +kernel
theorem dX7_go_89 : decode cX7_go 89 = .ok (.iload_n 3, 1) := by decide +kernel
theorem dX7_go_90 : decode cX7_go 90 = .ok (.ifCond .eq (-71), 3) := by decide +kernel
theorem dX7_go_93 : decode cX7_go 93 = .ok (.aload_n 0, 1) := by decide +kernel
theorem dX7_go_94 : decode cX7_go 94 = .ok (.bipush 44, 2) := by decide +kernel
theorem dX7_go_96 : decode cX7_go 96 = .ok (.bipush 44, 2) := by decide +kernel
theorem dX7_go_98 : decode cX7_go 98 = .ok (.invokevirtual 158, 3) := by decide +kernel
theorem dX7_go_101 : decode cX7_go 101 = .ok (.istore 4, 2) := by decide +kernel
theorem dX7_go_103 : decode cX7_go 103 = .ok (.aload_n 0, 1) := by decide +kernel
theorem dX7_go_104 : decode cX7_go 104 = .ok (.getfield 154, 3) := by decide +kernel
theorem dX7_go_107 : decode cX7_go 107 = .ok (.ifCond .ne 7, 3) := by decide +kernel
theorem dX7_go_110 : decode cX7_go 110 = .ok (.iconst 1, 1) := by decide +kernel
theorem dX7_go_111 : decode cX7_go 111 = .ok (.goto 4, 3) := by decide +kernel
theorem dX7_go_114 : decode cX7_go 114 = .ok (.iconst 0, 1) := by decide +kernel
theorem dX7_go_115 : decode cX7_go 115 = .ok (.istore_n 3, 1) := by decide +kernel
theorem dX7_go_116 : decode cX7_go 116 = .ok (.goto (-97), 3) := by decide +kernel
theorem dX7_go_119 : decode cX7_go 119 = .ok (.iload_n 2, 1) := by decide +kernel
theorem dX7_go_120 : decode cX7_go 120 = .ok (.ireturn, 1) := by decide +kernel
theorem dX7_perform_0 : decode cX7_perform 0 = .ok (.aload_n 0, 1) := by decide +kernel
theorem dX7_perform_1 : decode cX7_perform 1 = .ok (.iconst 0, 1) := by decide +kernel
theorem dX7_perform_2 : decode cX7_perform 2 = .ok (.invokevirtual 177, 3) := by decide +kernel
theorem dX7_perform_5 : decode cX7_perform 5 = .ok (.istore_n 1, 1) := by decide +kernel
theorem dX7_perform_6 : decode cX7_perform 6 = .ok (.aload_n 0, 1) := by decide +kernel
theorem dX7_perform_7 : decode cX7_perform 7 = .ok (.getfield 154, 3) := by decide +kernel
theorem dX7_perform_10 : decode cX7_perform 10 = .ok (.ifCond .eq 11, 3) := by decide +kernel
theorem dX7_perform_13 : decode cX7_perform 13 = .ok (.bipush (-100), 2) := by decide +kernel
theorem dX7_perform_15 : decode cX7_perform 15 = .ok (.aload_n 0, 1) := by decide +kernel
theorem dX7_perform_16 : decode cX7_perform 16 = .ok (.getfield 151, 3) := by decide +kernel
theorem dX7_perform_19 : decode cX7_perform 19 = .ok (.isub, 1) := by decide +kernel
theorem dX7_perform_20 : decode cX7_perform 20 = .ok (.ireturn, 1) := by decide +kernel
theorem dX7_perform_21 : decode cX7_perform 21 = .ok (.aload_n 0, 1) := by decide +kernel
theorem dX7_perform_22 : decode cX7_perform 22 = .ok (.invokevirtual 123, 3) := by decide +kernel
theorem dX7_perform_25 : decode cX7_perform 25 = .ok (.aload_n 0, 1) := by decide +kernel
theorem dX7_perform_26 : decode cX7_perform 26 = .ok (.iconst 1, 1) := by decide +kernel
theorem dX7_perform_27 : decode cX7_perform 27 = .ok (.invokevirtual 177, 3) := by decide +kernel
theorem dX7_perform_30 : decode cX7_perform 30 = .ok (.istore_n 1, 1) := by decide +kernel
theorem dX7_perform_31 : decode cX7_perform 31 = .ok (.aload_n 0, 1) := by decide +kernel
theorem dX7_perform_32 : decode cX7_perform 32 = .ok (.invokevirtual 126, 3) := by decide +kernel
theorem dX7_perform_35 : decode cX7_perform 35 = .ok (.aload_n 0, 1) := by decide +kernel
theorem dX7_perform_36 : decode cX7_perform 36 = .ok (.getfield 168, 3) := by decide +kernel
theorem dX7_perform_39 : decode cX7_perform 39 = .ok (.ifCond .ge 19, 3) := by decide +kernel
theorem dX7_perform_42 : decode cX7_perform 42 = .ok (.aload_n 0, 1) := by decide +kernel
theorem dX7_perform_43 : decode cX7_perform 43 = .ok (.iload_n 1, 1) := by decide +kernel
theorem dX7_perform_44 : decode cX7_perform 44 = .ok (.putfield 28, 3) := by decide +kernel
theorem dX7_perform_47 : decode cX7_perform 47 = .ok (.aload_n 0, 1) := by decide +kernel
theorem dX7_perform_48 : decode cX7_perform 48 = .ok (.aload_n 0, 1) := by decide +kernel
theorem dX7_perform_49 : decode cX7_perform 49 = .ok (.getfield 168, 3) := by decide +kernel
theorem dX7_perform_52 : decode cX7_perform 52 = .ok (.putfield 32, 3) := by decide +kernel
theorem dX7_perform_55 : decode cX7_perform 55 = .ok (.bipush (-4), 2) := by decide +kernel
theorem dX7_perform_57 : decode cX7_perform 57 = .ok (.ireturn, 1) := by decide +kernel
theorem dX7_perform_58 : decode cX7_perform 58 = .ok (.aload_n 0, 1) := by decide +kernel
theorem dX7_perform_59 : decode cX7_perform 59 = .ok (.invokevirtual 114, 3) := by decide +kernel
theorem dX7_perform_62 : decode cX7_perform 62 = .ok (.aload_n 0, 1) := by decide +kernel
theorem dX7_perform_63 : decode cX7_perform 63 = .ok (.iconst 1, 1) := by decide +kernel
theorem dX7_perform_64 : decode cX7_perform 64 = .ok (.invokevirtual 177, 3) := by decide +kernel
theorem dX7_perform_67 : decode cX7_perform 67 = .ok (.ireturn, 1) := by decide +kernel
theorem dX7_stop_0 : decode cX7_stop 0 = .ok (.iload_n 1, 1) := by decide +kernel
theorem dX7_stop_1 : decode cX7_stop 1 = .ok (.iconst 0, 1) := by decide +kernel
theorem dX7_stop_2 : decode cX7_stop 2 = .ok (.iconst 1, 1) := by decide +kernel
theorem dX7_stop_3 : decode cX7_stop 3 = .ok (.invokestatic 55, 3) := by decide +kernel
theorem dX7_stop_6 : decode cX7_stop 6 = .ok (.ifCond .ne 8, 3) := by decide +kernel
theorem dX7_stop_9 : decode cX7_stop 9 = .ok (.bipush (-2), 2) := by decide +kernel
theorem dX7_stop_11 : decode cX7_stop 11 = .ok (.goto 18, 3) := by decide +kernel
theorem dX7_stop_14 : decode cX7_stop 14 = .ok (.iload_n 1, 1) := by decide +kernel
theorem dX7_stop_15 : decode cX7_stop 15 = .ok (.ifCond .ne 10, 3) := by decide +kernel
theorem dX7_stop_18 : decode cX7_stop 18 = .ok (.aload_n 0, 1) := by decide +kernel
theorem dX7_stop_19 : decode cX7_stop 19 = .ok (.getfield 28, 3) := by decide +kernel
theorem dX7_stop_22 : decode cX7_stop 22 = .ok (.goto 7, 3) := by decide +kernel
theorem dX7_stop_25 : decode cX7_stop 25 = .ok (.aload_n 0, 1) := by decide +kernel
theorem dX7_stop_26 : decode cX7_stop 26 = .ok (.getfield 32, 3) := by decide +kernel
theorem dX7_stop_29 : decode cX7_stop 29 = .ok (.ireturn, 1) := by decide +kernel
theorem dX7_undo_0 : decode cX7_undo 0 = .ok (.aload_n 0, 1) := by decide +kernel
theorem dX7_undo_1 : decode cX7_undo 1 = .ok (.getfield 66, 3) := by decide +kernel
theorem dX7_undo_4 : decode cX7_undo 4 = .ok (.ifCond .ne 6, 3) := by decide +kernel
theorem dX7_undo_7 : decode cX7_undo 7 = .ok (.bipush (-5), 2) := by decide +kernel
theorem dX7_undo_9 : decode cX7_undo 9 = .ok (.ireturn, 1) := by decide +kernel
theorem dX7_undo_10 : decode cX7_undo 10 = .ok (.aload_n 0, 1) := by decide +kernel
theorem dX7_undo_11 : decode cX7_undo 11 = .ok (.dup, 1) := by decide +kernel
theorem dX7_undo_12 : decode cX7_undo 12 = .ok (.getfield 66, 3) := by decide +kernel
theorem dX7_undo_15 : decode cX7_undo 15 = .ok (.iconst 1, 1) := by decide +kernel
theorem dX7_undo_16 : decode cX7_undo 16 = .ok (.isub, 1) := by decide +kernel
theorem dX7_undo_17 : decode cX7_undo 17 = .ok (.putfield 66, 3) := by decide +kernel
theorem dX7_undo_20 : decode cX7_undo 20 = .ok (.iconst 0, 1) := by decide +kernel
theorem dX7_undo_21 : decode cX7_undo 21 = .ok (.istore_n 1, 1) := by decide +kernel
theorem dX7_undo_22 : decode cX7_undo 22 = .ok (.iload_n 1, 1) := by decide +kernel
theorem dX7_undo_23 : decode cX7_undo 23 = .ok (.sipush 336, 3) := by decide +kernel
theorem dX7_undo_26 : decode cX7_undo 26 = .ok (.if_icmp .ge 30, 3) := by decide +kernel
theorem dX7_undo_29 : decode cX7_undo 29 = .ok (.aload_n 0, 1) := by decide +kernel
theorem dX7_undo_30 : decode cX7_undo 30 = .ok (.getfield 7, 3) := by decide +kernel
theorem dX7_undo_33 : decode cX7_undo 33 = .ok (.iload_n 1, 1) := by decide +kernel
theorem dX7_undo_34 : decode cX7_undo 34 = .ok (.aload_n 0, 1) := by decide +kernel
theorem dX7_undo_35 : decode cX7_undo 35 = .ok (.getfield 19, 3) := by decide +kernel
theorem dX7_undo_38 : decode cX7_undo 38 = .ok (.sipush 336, 3) := by decide +kernel
theorem dX7_undo_41 : decode cX7_undo 41 = .ok (.aload_n 0, 1) := by decide +kernel
theorem dX7_undo_42 : decode cX7_undo 42 = .ok (.getfield 66, 3) := by decide +kernel
theorem dX7_undo_45 : decode cX7_undo 45 = .ok (.imul, 1) := by decide +kernel
theorem dX7_undo_46 : decode cX7_undo 46 = .ok (.iload_n 1, 1) := by decide +kernel
theorem dX7_undo_47 : decode cX7_undo 47 = .ok (.iadd, 1) := by decide +kernel
theorem dX7_undo_48 : decode cX7_undo 48 = .ok (.iaload, 1) := by decide +kernel
theorem dX7_undo_49 : decode cX7_undo 49 = .ok (.iastore, 1) := by decide +kernel
theorem dX7_undo_50 : decode cX7_undo 50 = .ok (.iinc 1 1, 3) := by decide +kernel
theorem dX7_undo_53 : decode cX7_undo 53 = .ok (.goto (-31), 3) := by decide +kernel
theorem dX7_undo_56 : decode cX7_undo 56 = .ok (.aload_n 0, 1) := by decide +kernel
theorem dX7_undo_57 : decode cX7_undo 57 = .ok (.getfield 66, 3) := by decide +kernel
theorem dX7_undo_60 : decode cX7_undo 60 = .ok (.ireturn, 1) := by decide +kernel
theorem dX7_keep_0 : decode cX7_keep 0 = .ok (.iconst 0, 1) := by decide +kernel
theorem dX7_keep_1 : decode cX7_keep 1 = .ok (.istore_n 1, 1) := by decide +kernel
theorem dX7_keep_2 : decode cX7_keep 2 = .ok (.iload_n 1, 1) := by decide +kernel
theorem dX7_keep_3 : decode cX7_keep 3 = .ok (.sipush 336, 3) := by decide +kernel
theorem dX7_keep_6 : decode cX7_keep 6 = .ok (.if_icmp .ge 21, 3) := by decide +kernel
theorem dX7_keep_9 : decode cX7_keep 9 = .ok (.aload_n 0, 1) := by decide +kernel
theorem dX7_keep_10 : decode cX7_keep 10 = .ok (.getfield 22, 3) := by decide +kernel
theorem dX7_keep_13 : decode cX7_keep 13 = .ok (.iload_n 1, 1) := by decide +kernel
theorem dX7_keep_14 : decode cX7_keep 14 = .ok (.aload_n 0, 1) := by decide +kernel
theorem dX7_keep_15 : decode cX7_keep 15 = .ok (.getfield 7, 3) := by decide +kernel
theorem dX7_keep_18 : decode cX7_keep 18 = .ok (.iload_n 1, 1) := by decide +kernel
theorem dX7_keep_19 : decode cX7_keep 19 = .ok (.iaload, 1) := by decide +kernel
theorem dX7_keep_20 : decode cX7_keep 20 = .ok (.iastore, 1) := by decide +kernel
theorem dX7_keep_21 : decode cX7_keep 21 = .ok (.iinc 1 1, 3) := by decide +kernel
theorem dX7_keep_24 : decode cX7_keep 24 = .ok (.goto (-22), 3) := by decide +kernel
theorem dX7_keep_27 : decode cX7_keep 27 = .ok (.aload_n 0, 1) := by decide +kernel
theorem dX7_keep_28 : decode cX7_keep 28 = .ok (.iconst 1, 1) := by decide +kernel
theorem dX7_keep_29 : decode cX7_keep 29 = .ok (.putfield 181, 3) := by decide +kernel
theorem dX7_keep_32 : decode cX7_keep 32 = .ok (.aload_n 0, 1) := by decide +kernel
theorem dX7_keep_33 : decode cX7_keep 33 = .ok (.getfield 7, 3) := by decide +kernel
theorem dX7_keep_36 : decode cX7_keep 36 = .ok (.sipush 132, 3) := by decide +kernel
theorem dX7_keep_39 : decode cX7_keep 39 = .ok (.iaload, 1) := by decide +kernel
theorem dX7_keep_40 : decode cX7_keep 40 = .ok (.ireturn, 1) := by decide +kernel
theorem dX7_restore_0 : decode cX7_restore 0 = .ok (.aload_n 0, 1) := by decide +kernel
theorem dX7_restore_1 : decode cX7_restore 1 = .ok (.getfield 181, 3) := by decide +kernel
theorem dX7_restore_4 : decode cX7_restore 4 = .ok (.ifCond .ne 6, 3) := by decide +kernel
theorem dX7_restore_7 : decode cX7_restore 7 = .ok (.bipush (-5), 2) := by decide +kernel
theorem dX7_restore_9 : decode cX7_restore 9 = .ok (.ireturn, 1) := by decide +kernel
theorem dX7_restore_10 : decode cX7_restore 10 = .ok (.aload_n 0, 1) := by decide +kernel
theorem dX7_restore_11 : decode cX7_restore 11 = .ok (.invokevirtual 114, 3) := by decide +kernel
theorem dX7_restore_14 : decode cX7_restore 14 = .ok (.iconst 0, 1) := by decide +kernel
theorem dX7_restore_15 : decode cX7_restore 15 = .ok (.istore_n 1, 1) := by decide +kernel
theorem dX7_restore_16 : decode cX7_restore 16 = .ok (.iload_n 1, 1) := by decide +kernel
theorem dX7_restore_17 : decode cX7_restore 17 = .ok (.sipush 336, 3) := by decide +kernel
theorem dX7_restore_20 : decode cX7_restore 20 = .ok (.if_icmp .ge 21, 3) := by decide +kernel
theorem dX7_restore_23 : decode cX7_restore 23 = .ok (.aload_n 0, 1) := by decide +kernel
theorem dX7_restore_24 : decode cX7_restore 24 = .ok (.getfield 7, 3) := by decide +kernel
theorem dX7_restore_27 : decode cX7_restore 27 = .ok (.iload_n 1, 1) := by decide +kernel
theorem dX7_restore_28 : decode cX7_restore 28 = .ok (.aload_n 0, 1) := by decide +kernel
theorem dX7_restore_29 : decode cX7_restore 29 = .ok (.getfield 22, 3) := by decide +kernel
theorem dX7_restore_32 : decode cX7_restore 32 = .ok (.iload_n 1, 1) := by decide +kernel
theorem dX7_restore_33 : decode cX7_restore 33 = .ok (.iaload, 1) := by decide +kernel
theorem dX7_restore_34 : decode cX7_restore 34 = .ok (.iastore, 1) := by decide +kernel
theorem dX7_restore_35 : decode cX7_restore 35 = .ok (.iinc 1 1, 3) := by decide +kernel
theorem dX7_restore_38 : decode cX7_restore 38 = .ok (.goto (-22), 3) := by decide +kernel
theorem dX7_restore_41 : decode cX7_restore 41 = .ok (.aload_n 0, 1) := by decide +kernel
theorem dX7_restore_42 : decode cX7_restore 42 = .ok (.getfield 7, 3) := by decide +kernel
theorem dX7_restore_45 : decode cX7_restore 45 = .ok (.sipush 132, 3) := by decide +kernel
theorem dX7_restore_48 : decode cX7_restore 48 = .ok (.iaload, 1) := by decide +kernel
theorem dX7_restore_49 : decode cX7_restore 49 = .ok (.ireturn, 1) := by decide +kernel
theorem dX7_agentsOf_0 : decode cX7_agentsOf 0 = .ok (.iconst 0, 1) := by decide +kernel
theorem dX7_agentsOf_1 : decode cX7_agentsOf 1 = .ok (.istore_n 3, 1) := by decide +kernel
theorem dX7_agentsOf_2 : decode cX7_agentsOf 2 = .ok (.iconst 0, 1) := by decide +kernel
theorem dX7_agentsOf_3 : decode cX7_agentsOf 3 = .ok (.istore 4, 2) := by decide +kernel
theorem dX7_agentsOf_5 : decode cX7_agentsOf 5 = .ok (.iload 4, 2) := by decide +kernel
theorem dX7_agentsOf_7 : decode cX7_agentsOf 7 = .ok (.bipush 6, 2) := by decide +kernel
theorem dX7_agentsOf_9 : decode cX7_agentsOf 9 = .ok (.if_icmp .ge 51, 3) := by decide +kernel
theorem dX7_agentsOf_12 : decode cX7_agentsOf 12 = .ok (.iload_n 3, 1) := by decide +kernel
theorem dX7_agentsOf_13 : decode cX7_agentsOf 13 = .ok (.iload_n 2, 1) := by decide +kernel
theorem dX7_agentsOf_14 : decode cX7_agentsOf 14 = .ok (.bipush 8, 2) := by decide +kernel
theorem dX7_agentsOf_16 : decode cX7_agentsOf 16 = .ok (.if_icmp .ne 17, 3) := by decide +kernel
theorem dX7_agentsOf_19 : decode cX7_agentsOf 19 = .ok (.aload_n 0, 1) := by decide +kernel
theorem dX7_agentsOf_20 : decode cX7_agentsOf 20 = .ok (.getfield 7, 3) := by decide +kernel
theorem dX7_agentsOf_23 : decode cX7_agentsOf 23 = .ok (.iload 4, 2) := by decide +kernel
theorem dX7_agentsOf_25 : decode cX7_agentsOf 25 = .ok (.iload_n 1, 1) := by decide +kernel
theorem dX7_agentsOf_26 : decode cX7_agentsOf 26 = .ok (.invokestatic 72, 3) := by decide +kernel
theorem dX7_agentsOf_29 : decode cX7_agentsOf 29 = .ok (.iaload, 1) := by decide +kernel
theorem dX7_agentsOf_30 : decode cX7_agentsOf 30 = .ok (.goto 22, 3) := by decide +kernel
theorem dX7_agentsOf_33 : decode cX7_agentsOf 33 = .ok (.aload_n 0, 1) := by decide +kernel
theorem dX7_agentsOf_34 : decode cX7_agentsOf 34 = .ok (.getfield 7, 3) := by decide +kernel
theorem dX7_agentsOf_37 : decode cX7_agentsOf 37 = .ok (.iload 4, 2) := by decide +kernel
theorem dX7_agentsOf_39 : decode cX7_agentsOf 39 = .ok (.iload_n 1, 1) := by decide +kernel
theorem dX7_agentsOf_40 : decode cX7_agentsOf 40 = .ok (.invokestatic 51, 3) := by decide +kernel
theorem dX7_agentsOf_43 : decode cX7_agentsOf 43 = .ok (.iaload, 1) := by decide +kernel
theorem dX7_agentsOf_44 : decode cX7_agentsOf 44 = .ok (.ifCond .le 7, 3) := by decide +kernel
theorem dX7_agentsOf_47 : decode cX7_agentsOf 47 = .ok (.iconst 1, 1) := by decide +kernel
theorem dX7_agentsOf_48 : decode cX7_agentsOf 48 = .ok (.goto 4, 3) := by decide +kernel
theorem dX7_agentsOf_51 : decode cX7_agentsOf 51 = .ok (.iconst 0, 1) := by decide +kernel
theorem dX7_agentsOf_52 : decode cX7_agentsOf 52 = .ok (.iadd, 1) := by decide +kernel
theorem dX7_agentsOf_53 : decode cX7_agentsOf 53 = .ok (.istore_n 3, 1) := by decide +kernel
theorem dX7_agentsOf_54 : decode cX7_agentsOf 54 = .ok (.iinc 4 1, 3) := by decide +kernel
theorem dX7_agentsOf_57 : decode cX7_agentsOf 57 = .ok (.goto (-52), 3) := by decide +kernel
theorem dX7_agentsOf_60 : decode cX7_agentsOf 60 = .ok (.iload_n 3, 1) := by decide +kernel
theorem dX7_agentsOf_61 : decode cX7_agentsOf 61 = .ok (.ireturn, 1) := by decide +kernel
theorem dX7_wholeOf_0 : decode cX7_wholeOf 0 = .ok (.bipush (-5), 2) := by decide +kernel
theorem dX7_wholeOf_2 : decode cX7_wholeOf 2 = .ok (.istore_n 2, 1) := by decide +kernel
theorem dX7_wholeOf_3 : decode cX7_wholeOf 3 = .ok (.iconst 0, 1) := by decide +kernel
theorem dX7_wholeOf_4 : decode cX7_wholeOf 4 = .ok (.istore_n 3, 1) := by decide +kernel
theorem dX7_wholeOf_5 : decode cX7_wholeOf 5 = .ok (.iload_n 3, 1) := by decide +kernel
theorem dX7_wholeOf_6 : decode cX7_wholeOf 6 = .ok (.bipush 6, 2) := by decide +kernel
theorem dX7_wholeOf_8 : decode cX7_wholeOf 8 = .ok (.if_icmp .ge 30, 3) := by decide +kernel
theorem dX7_wholeOf_11 : decode cX7_wholeOf 11 = .ok (.aload_n 0, 1) := by decide +kernel
theorem dX7_wholeOf_12 : decode cX7_wholeOf 12 = .ok (.getfield 7, 3) := by decide +kernel
theorem dX7_wholeOf_15 : decode cX7_wholeOf 15 = .ok (.iload_n 3, 1) := by decide +kernel
theorem dX7_wholeOf_16 : decode cX7_wholeOf 16 = .ok (.iload_n 1, 1) := by decide +kernel
theorem dX7_wholeOf_17 : decode cX7_wholeOf 17 = .ok (.invokestatic 51, 3) := by decide +kernel
theorem dX7_wholeOf_20 : decode cX7_wholeOf 20 = .ok (.iaload, 1) := by decide +kernel
theorem dX7_wholeOf_21 : decode cX7_wholeOf 21 = .ok (.bipush 64, 2) := by decide +kernel
theorem dX7_wholeOf_23 : decode cX7_wholeOf 23 = .ok (.if_icmp .ne 7, 3) := by decide +kernel
theorem dX7_wholeOf_26 : decode cX7_wholeOf 26 = .ok (.iload_n 3, 1) := by decide +kernel
theorem dX7_wholeOf_27 : decode cX7_wholeOf 27 = .ok (.goto 4, 3) := by decide +kernel
theorem dX7_wholeOf_30 : decode cX7_wholeOf 30 = .ok (.iload_n 2, 1) := by decide +kernel
theorem dX7_wholeOf_31 : decode cX7_wholeOf 31 = .ok (.istore_n 2, 1) := by decide +kernel
theorem dX7_wholeOf_32 : decode cX7_wholeOf 32 = .ok (.iinc 3 1, 3) := by decide +kernel
theorem dX7_wholeOf_35 : decode cX7_wholeOf 35 = .ok (.goto (-30), 3) := by decide +kernel
theorem dX7_wholeOf_38 : decode cX7_wholeOf 38 = .ok (.iload_n 2, 1) := by decide +kernel
theorem dX7_wholeOf_39 : decode cX7_wholeOf 39 = .ok (.ireturn, 1) := by decide +kernel
theorem dX7_cell_0 : decode cX7_cell 0 = .ok (.iload_n 1, 1) := by decide +kernel
theorem dX7_cell_1 : decode cX7_cell 1 = .ok (.invokestatic 63, 3) := by decide +kernel
theorem dX7_cell_4 : decode cX7_cell 4 = .ok (.ifCond .ne 5, 3) := by decide +kernel
theorem dX7_cell_7 : decode cX7_cell 7 = .ok (.iconst (-1), 1) := by decide +kernel
theorem dX7_cell_8 : decode cX7_cell 8 = .ok (.ireturn, 1) := by decide +kernel
theorem dX7_cell_9 : decode cX7_cell 9 = .ok (.iload_n 2, 1) := by decide +kernel
theorem dX7_cell_10 : decode cX7_cell 10 = .ok (.tableswitch 139 0 8 #[50, 60, 70, 80, 87, 97, 127, 133, 80], 50) := by decide +kernel
theorem dX7_cell_60 : decode cX7_cell 60 = .ok (.aload_n 0, 1) := by decide +kernel
theorem dX7_cell_61 : decode cX7_cell 61 = .ok (.getfield 7, 3) := by decide +kernel
theorem dX7_cell_64 : decode cX7_cell 64 = .ok (.bipush 114, 2) := by decide +kernel
theorem dX7_cell_66 : decode cX7_cell 66 = .ok (.iload_n 1, 1) := by decide +kernel
theorem dX7_cell_67 : decode cX7_cell 67 = .ok (.iadd, 1) := by decide +kernel
theorem dX7_cell_68 : decode cX7_cell 68 = .ok (.iaload, 1) := by decide +kernel
theorem dX7_cell_69 : decode cX7_cell 69 = .ok (.ireturn, 1) := by decide +kernel
theorem dX7_cell_70 : decode cX7_cell 70 = .ok (.aload_n 0, 1) := by decide +kernel
theorem dX7_cell_71 : decode cX7_cell 71 = .ok (.getfield 7, 3) := by decide +kernel
theorem dX7_cell_74 : decode cX7_cell 74 = .ok (.bipush 120, 2) := by decide +kernel
theorem dX7_cell_76 : decode cX7_cell 76 = .ok (.iload_n 1, 1) := by decide +kernel
theorem dX7_cell_77 : decode cX7_cell 77 = .ok (.iadd, 1) := by decide +kernel
theorem dX7_cell_78 : decode cX7_cell 78 = .ok (.iaload, 1) := by decide +kernel
theorem dX7_cell_79 : decode cX7_cell 79 = .ok (.ireturn, 1) := by decide +kernel
theorem dX7_cell_80 : decode cX7_cell 80 = .ok (.aload_n 0, 1) := by decide +kernel
theorem dX7_cell_81 : decode cX7_cell 81 = .ok (.getfield 7, 3) := by decide +kernel
theorem dX7_cell_84 : decode cX7_cell 84 = .ok (.bipush 126, 2) := by decide +kernel
theorem dX7_cell_86 : decode cX7_cell 86 = .ok (.iload_n 1, 1) := by decide +kernel
theorem dX7_cell_87 : decode cX7_cell 87 = .ok (.iadd, 1) := by decide +kernel
theorem dX7_cell_88 : decode cX7_cell 88 = .ok (.iaload, 1) := by decide +kernel
theorem dX7_cell_89 : decode cX7_cell 89 = .ok (.ireturn, 1) := by decide +kernel
theorem dX7_cell_90 : decode cX7_cell 90 = .ok (.aload_n 0, 1) := by decide +kernel
theorem dX7_cell_91 : decode cX7_cell 91 = .ok (.iload_n 1, 1) := by decide +kernel
theorem dX7_cell_92 : decode cX7_cell 92 = .ok (.iload_n 2, 1) := by decide +kernel
theorem dX7_cell_93 : decode cX7_cell 93 = .ok (.invokevirtual 184, 3) := by decide +kernel
theorem dX7_cell_96 : decode cX7_cell 96 = .ok (.ireturn, 1) := by decide +kernel
theorem dX7_cell_97 : decode cX7_cell 97 = .ok (.aload_n 0, 1) := by decide +kernel
theorem dX7_cell_98 : decode cX7_cell 98 = .ok (.getfield 7, 3) := by decide +kernel
theorem dX7_cell_101 : decode cX7_cell 101 = .ok (.bipush 108, 2) := by decide +kernel
theorem dX7_cell_103 : decode cX7_cell 103 = .ok (.iload_n 1, 1) := by decide +kernel
theorem dX7_cell_104 : decode cX7_cell 104 = .ok (.iadd, 1) := by decide +kernel
theorem dX7_cell_105 : decode cX7_cell 105 = .ok (.iaload, 1) := by decide +kernel
theorem dX7_cell_106 : decode cX7_cell 106 = .ok (.ireturn, 1) := by decide +kernel
theorem dX7_cell_107 : decode cX7_cell 107 = .ok (.aload_n 0, 1) := by decide +kernel
theorem dX7_cell_108 : decode cX7_cell 108 = .ok (.getfield 7, 3) := by decide +kernel
theorem dX7_cell_111 : decode cX7_cell 111 = .ok (.bipush 108, 2) := by decide +kernel
theorem dX7_cell_113 : decode cX7_cell 113 = .ok (.iload_n 1, 1) := by decide +kernel
theorem dX7_cell_114 : decode cX7_cell 114 = .ok (.iadd, 1) := by decide +kernel
theorem dX7_cell_115 : decode cX7_cell 115 = .ok (.iaload, 1) := by decide +kernel
theorem dX7_cell_116 : decode cX7_cell 116 = .ok (.ifCond .ne 8, 3) := by decide +kernel
theorem dX7_cell_119 : decode cX7_cell 119 = .ok (.bipush (-5), 2) := by decide +kernel
theorem dX7_cell_121 : decode cX7_cell 121 = .ok (.goto 15, 3) := by decide +kernel
theorem dX7_cell_124 : decode cX7_cell 124 = .ok (.aload_n 0, 1) := by decide +kernel
theorem dX7_cell_125 : decode cX7_cell 125 = .ok (.getfield 7, 3) := by decide +kernel
theorem dX7_cell_128 : decode cX7_cell 128 = .ok (.bipush 72, 2) := by decide +kernel
theorem dX7_cell_130 : decode cX7_cell 130 = .ok (.bipush 6, 2) := by decide +kernel
theorem dX7_cell_132 : decode cX7_cell 132 = .ok (.iload_n 1, 1) := by decide +kernel
theorem dX7_cell_133 : decode cX7_cell 133 = .ok (.imul, 1) := by decide +kernel
theorem dX7_cell_134 : decode cX7_cell 134 = .ok (.iadd, 1) := by decide +kernel
theorem dX7_cell_135 : decode cX7_cell 135 = .ok (.iaload, 1) := by decide +kernel
theorem dX7_cell_136 : decode cX7_cell 136 = .ok (.ireturn, 1) := by decide +kernel
theorem dX7_cell_137 : decode cX7_cell 137 = .ok (.aload_n 0, 1) := by decide +kernel
theorem dX7_cell_138 : decode cX7_cell 138 = .ok (.iload_n 1, 1) := by decide +kernel
theorem dX7_cell_139 : decode cX7_cell 139 = .ok (.invokevirtual 145, 3) := by decide +kernel
theorem dX7_cell_142 : decode cX7_cell 142 = .ok (.ireturn, 1) := by decide +kernel
theorem dX7_cell_143 : decode cX7_cell 143 = .ok (.aload_n 0, 1) := by decide +kernel
theorem dX7_cell_144 : decode cX7_cell 144 = .ok (.iload_n 1, 1) := by decide +kernel
theorem dX7_cell_145 : decode cX7_cell 145 = .ok (.invokevirtual 187, 3) := by decide +kernel
theorem dX7_cell_148 : decode cX7_cell 148 = .ok (.ireturn, 1) := by decide +kernel
theorem dX7_cell_149 : decode cX7_cell 149 = .ok (.bipush (-2), 2) := by decide +kernel
theorem dX7_cell_151 : decode cX7_cell 151 = .ok (.ireturn, 1) := by decide +kernel
theorem dX7_sum_0 : decode cX7_sum 0 = .ok (.iconst 0, 1) := by decide +kernel
theorem dX7_sum_1 : decode cX7_sum 1 = .ok (.istore 4, 2) := by decide +kernel
theorem dX7_sum_3 : decode cX7_sum 3 = .ok (.iconst 0, 1) := by decide +kernel
theorem dX7_sum_4 : decode cX7_sum 4 = .ok (.istore 5, 2) := by decide +kernel
theorem dX7_sum_6 : decode cX7_sum 6 = .ok (.iload 5, 2) := by decide +kernel
theorem dX7_sum_8 : decode cX7_sum 8 = .ok (.aload_n 0, 1) := by decide +kernel
theorem dX7_sum_9 : decode cX7_sum 9 = .ok (.getfield 7, 3) := by decide +kernel
theorem dX7_sum_12 : decode cX7_sum 12 = .ok (.sipush 132, 3) := by decide +kernel
theorem dX7_sum_15 : decode cX7_sum 15 = .ok (.iaload, 1) := by decide +kernel
theorem dX7_sum_16 : decode cX7_sum 16 = .ok (.if_icmp .ge 59, 3) := by decide +kernel
theorem dX7_sum_19 : decode cX7_sum 19 = .ok (.iload 4, 2) := by decide +kernel
theorem dX7_sum_21 : decode cX7_sum 21 = .ok (.aload_n 0, 1) := by decide +kernel
theorem dX7_sum_22 : decode cX7_sum 22 = .ok (.getfield 7, 3) := by decide +kernel
theorem dX7_sum_25 : decode cX7_sum 25 = .ok (.iload 5, 2) := by decide +kernel
theorem dX7_sum_27 : decode cX7_sum 27 = .ok (.iconst 3, 1) := by decide +kernel
theorem dX7_sum_28 : decode cX7_sum 28 = .ok (.invokestatic 69, 3) := by decide +kernel
theorem dX7_sum_31 : decode cX7_sum 31 = .ok (.iaload, 1) := by decide +kernel
theorem dX7_sum_32 : decode cX7_sum 32 = .ok (.iload_n 2, 1) := by decide +kernel
theorem dX7_sum_33 : decode cX7_sum 33 = .ok (.if_icmp .ne 32, 3) := by decide +kernel
theorem dX7_sum_36 : decode cX7_sum 36 = .ok (.aload_n 0, 1) := by decide +kernel
theorem dX7_sum_37 : decode cX7_sum 37 = .ok (.getfield 7, 3) := by decide +kernel
theorem dX7_sum_40 : decode cX7_sum 40 = .ok (.iload 5, 2) := by decide +kernel
theorem dX7_sum_42 : decode cX7_sum 42 = .ok (.iload_n 3, 1) := by decide +kernel
theorem dX7_sum_43 : decode cX7_sum 43 = .ok (.invokestatic 69, 3) := by decide +kernel
theorem dX7_sum_46 : decode cX7_sum 46 = .ok (.iaload, 1) := by decide +kernel
theorem dX7_sum_47 : decode cX7_sum 47 = .ok (.iload_n 1, 1) := by decide +kernel
theorem dX7_sum_48 : decode cX7_sum 48 = .ok (.if_icmp .ne 17, 3) := by decide +kernel
theorem dX7_sum_51 : decode cX7_sum 51 = .ok (.aload_n 0, 1) := by decide +kernel
theorem dX7_sum_52 : decode cX7_sum 52 = .ok (.getfield 7, 3) := by decide +kernel
theorem dX7_sum_55 : decode cX7_sum 55 = .ok (.iload 5, 2) := by decide +kernel
theorem dX7_sum_57 : decode cX7_sum 57 = .ok (.iconst 4, 1) := by decide +kernel
theorem dX7_sum_58 : decode cX7_sum 58 = .ok (.invokestatic 69, 3) := by decide +kernel
theorem dX7_sum_61 : decode cX7_sum 61 = .ok (.iaload, 1) := by decide +kernel
theorem dX7_sum_62 : decode cX7_sum 62 = .ok (.goto 4, 3) := by decide +kernel
theorem dX7_sum_65 : decode cX7_sum 65 = .ok (.iconst 0, 1) := by decide +kernel
theorem dX7_sum_66 : decode cX7_sum 66 = .ok (.iadd, 1) := by decide +kernel
theorem dX7_sum_67 : decode cX7_sum 67 = .ok (.istore 4, 2) := by decide +kernel
theorem dX7_sum_69 : decode cX7_sum 69 = .ok (.iinc 5 1, 3) := by decide +kernel
theorem dX7_sum_72 : decode cX7_sum 72 = .ok (.goto (-66), 3) := by decide +kernel
theorem dX7_sum_75 : decode cX7_sum 75 = .ok (.iload 4, 2) := by decide +kernel
theorem dX7_sum_77 : decode cX7_sum 77 = .ok (.ireturn, 1) := by decide +kernel
theorem dX7_part_0 : decode cX7_part 0 = .ok (.iload_n 1, 1) := by decide +kernel
theorem dX7_part_1 : decode cX7_part 1 = .ok (.iload_n 2, 1) := by decide +kernel
theorem dX7_part_2 : decode cX7_part 2 = .ok (.invokestatic 106, 3) := by decide +kernel
theorem dX7_part_5 : decode cX7_part 5 = .ok (.ifCond .ne 5, 3) := by decide +kernel
theorem dX7_part_8 : decode cX7_part 8 = .ok (.iconst (-1), 1) := by decide +kernel
theorem dX7_part_9 : decode cX7_part 9 = .ok (.ireturn, 1) := by decide +kernel
theorem dX7_part_10 : decode cX7_part 10 = .ok (.iload_n 3, 1) := by decide +kernel
theorem dX7_part_11 : decode cX7_part 11 = .ok (.tableswitch 81 0 5 #[37, 48, 48, 56, 67, 74], 37) := by decide +kernel
theorem dX7_part_48 : decode cX7_part 48 = .ok (.aload_n 0, 1) := by decide +kernel
theorem dX7_part_49 : decode cX7_part 49 = .ok (.getfield 7, 3) := by decide +kernel
theorem dX7_part_52 : decode cX7_part 52 = .ok (.iload_n 1, 1) := by decide +kernel
theorem dX7_part_53 : decode cX7_part 53 = .ok (.iload_n 2, 1) := by decide +kernel
theorem dX7_part_54 : decode cX7_part 54 = .ok (.invokestatic 51, 3) := by decide +kernel
theorem dX7_part_57 : decode cX7_part 57 = .ok (.iaload, 1) := by decide +kernel
theorem dX7_part_58 : decode cX7_part 58 = .ok (.ireturn, 1) := by decide +kernel
theorem dX7_part_59 : decode cX7_part 59 = .ok (.aload_n 0, 1) := by decide +kernel
theorem dX7_part_60 : decode cX7_part 60 = .ok (.iload_n 1, 1) := by decide +kernel
theorem dX7_part_61 : decode cX7_part 61 = .ok (.iload_n 2, 1) := by decide +kernel
theorem dX7_part_62 : decode cX7_part 62 = .ok (.iload_n 3, 1) := by decide +kernel
theorem dX7_part_63 : decode cX7_part 63 = .ok (.invokevirtual 190, 3) := by decide +kernel
theorem dX7_part_66 : decode cX7_part 66 = .ok (.ireturn, 1) := by decide +kernel
theorem dX7_part_67 : decode cX7_part 67 = .ok (.aload_n 0, 1) := by decide +kernel
theorem dX7_part_68 : decode cX7_part 68 = .ok (.getfield 7, 3) := by decide +kernel
theorem dX7_part_71 : decode cX7_part 71 = .ok (.iload_n 1, 1) := by decide +kernel
theorem dX7_part_72 : decode cX7_part 72 = .ok (.iload_n 2, 1) := by decide +kernel
theorem dX7_part_73 : decode cX7_part 73 = .ok (.invokestatic 72, 3) := by decide +kernel
theorem dX7_part_76 : decode cX7_part 76 = .ok (.iaload, 1) := by decide +kernel
theorem dX7_part_77 : decode cX7_part 77 = .ok (.ireturn, 1) := by decide +kernel
theorem dX7_part_78 : decode cX7_part 78 = .ok (.aload_n 0, 1) := by decide +kernel
theorem dX7_part_79 : decode cX7_part 79 = .ok (.iload_n 1, 1) := by decide +kernel
theorem dX7_part_80 : decode cX7_part 80 = .ok (.iload_n 2, 1) := by decide +kernel
theorem dX7_part_81 : decode cX7_part 81 = .ok (.invokevirtual 135, 3) := by decide +kernel
theorem dX7_part_84 : decode cX7_part 84 = .ok (.ireturn, 1) := by decide +kernel
theorem dX7_part_85 : decode cX7_part 85 = .ok (.aload_n 0, 1) := by decide +kernel
theorem dX7_part_86 : decode cX7_part 86 = .ok (.iload_n 1, 1) := by decide +kernel
theorem dX7_part_87 : decode cX7_part 87 = .ok (.iload_n 2, 1) := by decide +kernel
theorem dX7_part_88 : decode cX7_part 88 = .ok (.invokevirtual 193, 3) := by decide +kernel
theorem dX7_part_91 : decode cX7_part 91 = .ok (.ireturn, 1) := by decide +kernel
theorem dX7_part_92 : decode cX7_part 92 = .ok (.bipush (-2), 2) := by decide +kernel
theorem dX7_part_94 : decode cX7_part 94 = .ok (.ireturn, 1) := by decide +kernel
theorem dX7_loan_0 : decode cX7_loan 0 = .ok (.aload_n 0, 1) := by decide +kernel
theorem dX7_loan_1 : decode cX7_loan 1 = .ok (.iload_n 1, 1) := by decide +kernel
theorem dX7_loan_2 : decode cX7_loan 2 = .ok (.invokevirtual 82, 3) := by decide +kernel
theorem dX7_loan_5 : decode cX7_loan 5 = .ok (.istore_n 3, 1) := by decide +kernel
theorem dX7_loan_6 : decode cX7_loan 6 = .ok (.iload_n 3, 1) := by decide +kernel
theorem dX7_loan_7 : decode cX7_loan 7 = .ok (.bipush (-5), 2) := by decide +kernel
theorem dX7_loan_9 : decode cX7_loan 9 = .ok (.if_icmp .ne 5, 3) := by decide +kernel
theorem dX7_loan_12 : decode cX7_loan 12 = .ok (.iconst (-1), 1) := by decide +kernel
theorem dX7_loan_13 : decode cX7_loan 13 = .ok (.ireturn, 1) := by decide +kernel
theorem dX7_loan_14 : decode cX7_loan 14 = .ok (.iload_n 2, 1) := by decide +kernel
theorem dX7_loan_15 : decode cX7_loan 15 = .ok (.iconst 0, 1) := by decide +kernel
theorem dX7_loan_16 : decode cX7_loan 16 = .ok (.iconst 4, 1) := by decide +kernel
theorem dX7_loan_17 : decode cX7_loan 17 = .ok (.invokestatic 55, 3) := by decide +kernel
theorem dX7_loan_20 : decode cX7_loan 20 = .ok (.ifCond .ne 6, 3) := by decide +kernel
theorem dX7_loan_23 : decode cX7_loan 23 = .ok (.bipush (-2), 2) := by decide +kernel
theorem dX7_loan_25 : decode cX7_loan 25 = .ok (.ireturn, 1) := by decide +kernel
theorem dX7_loan_26 : decode cX7_loan 26 = .ok (.iload_n 2, 1) := by decide +kernel
theorem dX7_loan_27 : decode cX7_loan 27 = .ok (.iconst 4, 1) := by decide +kernel
theorem dX7_loan_28 : decode cX7_loan 28 = .ok (.if_icmp .ge 18, 3) := by decide +kernel
theorem dX7_loan_31 : decode cX7_loan 31 = .ok (.aload_n 0, 1) := by decide +kernel
theorem dX7_loan_32 : decode cX7_loan 32 = .ok (.getfield 7, 3) := by decide +kernel
theorem dX7_loan_35 : decode cX7_loan 35 = .ok (.iload_n 3, 1) := by decide +kernel
theorem dX7_loan_36 : decode cX7_loan 36 = .ok (.iload_n 2, 1) := by decide +kernel
theorem dX7_loan_37 : decode cX7_loan 37 = .ok (.iconst 1, 1) := by decide +kernel
theorem dX7_loan_38 : decode cX7_loan 38 = .ok (.iadd, 1) := by decide +kernel
theorem dX7_loan_39 : decode cX7_loan 39 = .ok (.invokestatic 69, 3) := by decide +kernel
theorem dX7_loan_42 : decode cX7_loan 42 = .ok (.iaload, 1) := by decide +kernel
theorem dX7_loan_43 : decode cX7_loan 43 = .ok (.goto 16, 3) := by decide +kernel
theorem dX7_loan_46 : decode cX7_loan 46 = .ok (.aload_n 0, 1) := by decide +kernel
theorem dX7_loan_47 : decode cX7_loan 47 = .ok (.iload_n 3, 1) := by decide +kernel
theorem dX7_loan_48 : decode cX7_loan 48 = .ok (.invokevirtual 93, 3) := by decide +kernel
theorem dX7_loan_51 : decode cX7_loan 51 = .ok (.ifCond .eq 7, 3) := by decide +kernel
theorem dX7_loan_54 : decode cX7_loan 54 = .ok (.iconst 1, 1) := by decide +kernel
theorem dX7_loan_55 : decode cX7_loan 55 = .ok (.goto 4, 3) := by decide +kernel
theorem dX7_loan_58 : decode cX7_loan 58 = .ok (.iconst 0, 1) := by decide +kernel
theorem dX7_loan_59 : decode cX7_loan 59 = .ok (.ireturn, 1) := by decide +kernel
theorem dX7_reason_0 : decode cX7_reason 0 = .ok (.iload_n 1, 1) := by decide +kernel
theorem dX7_reason_1 : decode cX7_reason 1 = .ok (.iload_n 2, 1) := by decide +kernel
theorem dX7_reason_2 : decode cX7_reason 2 = .ok (.invokestatic 106, 3) := by decide +kernel
theorem dX7_reason_5 : decode cX7_reason 5 = .ok (.ifCond .ne 5, 3) := by decide +kernel
theorem dX7_reason_8 : decode cX7_reason 8 = .ok (.iconst (-1), 1) := by decide +kernel
theorem dX7_reason_9 : decode cX7_reason 9 = .ok (.ireturn, 1) := by decide +kernel
theorem dX7_reason_10 : decode cX7_reason 10 = .ok (.aload_n 0, 1) := by decide +kernel
theorem dX7_reason_11 : decode cX7_reason 11 = .ok (.iload_n 1, 1) := by decide +kernel
theorem dX7_reason_12 : decode cX7_reason 12 = .ok (.iload_n 2, 1) := by decide +kernel
theorem dX7_reason_13 : decode cX7_reason 13 = .ok (.invokevirtual 193, 3) := by decide +kernel
theorem dX7_reason_16 : decode cX7_reason 16 = .ok (.bipush 64, 2) := by decide +kernel
theorem dX7_reason_18 : decode cX7_reason 18 = .ok (.if_icmp .ne 7, 3) := by decide +kernel
theorem dX7_reason_21 : decode cX7_reason 21 = .ok (.iconst 0, 1) := by decide +kernel
theorem dX7_reason_22 : decode cX7_reason 22 = .ok (.goto 18, 3) := by decide +kernel
theorem dX7_reason_25 : decode cX7_reason 25 = .ok (.aload_n 0, 1) := by decide +kernel
theorem dX7_reason_26 : decode cX7_reason 26 = .ok (.iload_n 2, 1) := by decide +kernel
theorem dX7_reason_27 : decode cX7_reason 27 = .ok (.bipush 8, 2) := by decide +kernel
theorem dX7_reason_29 : decode cX7_reason 29 = .ok (.invokevirtual 184, 3) := by decide +kernel
theorem dX7_reason_32 : decode cX7_reason 32 = .ok (.ifCond .le 7, 3) := by decide +kernel
theorem dX7_reason_35 : decode cX7_reason 35 = .ok (.iconst 1, 1) := by decide +kernel
theorem dX7_reason_36 : decode cX7_reason 36 = .ok (.goto 4, 3) := by decide +kernel
theorem dX7_reason_39 : decode cX7_reason 39 = .ok (.iconst 2, 1) := by decide +kernel
theorem dX7_reason_40 : decode cX7_reason 40 = .ok (.ireturn, 1) := by decide +kernel
theorem dX7_chain_0 : decode cX7_chain 0 = .ok (.iload_n 1, 1) := by decide +kernel
theorem dX7_chain_1 : decode cX7_chain 1 = .ok (.invokestatic 63, 3) := by decide +kernel
theorem dX7_chain_4 : decode cX7_chain 4 = .ok (.ifCond .ne 5, 3) := by decide +kernel
theorem dX7_chain_7 : decode cX7_chain 7 = .ok (.iconst (-1), 1) := by decide +kernel
theorem dX7_chain_8 : decode cX7_chain 8 = .ok (.ireturn, 1) := by decide +kernel
theorem dX7_chain_9 : decode cX7_chain 9 = .ok (.iconst 0, 1) := by decide +kernel
theorem dX7_chain_10 : decode cX7_chain 10 = .ok (.istore_n 2, 1) := by decide +kernel
theorem dX7_chain_11 : decode cX7_chain 11 = .ok (.iconst 0, 1) := by decide +kernel
theorem dX7_chain_12 : decode cX7_chain 12 = .ok (.istore_n 3, 1) := by decide +kernel
theorem dX7_chain_13 : decode cX7_chain 13 = .ok (.iload_n 3, 1) := by decide +kernel
theorem dX7_chain_14 : decode cX7_chain 14 = .ok (.sipush 384, 3) := by decide +kernel
theorem dX7_chain_17 : decode cX7_chain 17 = .ok (.if_icmp .ge 33, 3) := by decide +kernel
theorem dX7_chain_20 : decode cX7_chain 20 = .ok (.aload_n 0, 1) := by decide +kernel
theorem dX7_chain_21 : decode cX7_chain 21 = .ok (.getfield 48, 3) := by decide +kernel
theorem dX7_chain_24 : decode cX7_chain 24 = .ok (.iload_n 3, 1) := by decide +kernel
theorem dX7_chain_25 : decode cX7_chain 25 = .ok (.iload_n 3, 1) := by decide +kernel
theorem dX7_chain_26 : decode cX7_chain 26 = .ok (.bipush 64, 2) := by decide +kernel
theorem dX7_chain_28 : decode cX7_chain 28 = .ok (.irem, 1) := by decide +kernel
theorem dX7_chain_29 : decode cX7_chain 29 = .ok (.iconst 1, 1) := by decide +kernel
theorem dX7_chain_30 : decode cX7_chain 30 = .ok (.iload_n 3, 1) := by decide +kernel
theorem dX7_chain_31 : decode cX7_chain 31 = .ok (.bipush 64, 2) := by decide +kernel
theorem dX7_chain_33 : decode cX7_chain 33 = .ok (.idiv, 1) := by decide +kernel
theorem dX7_chain_34 : decode cX7_chain 34 = .ok (.ishl, 1) := by decide +kernel
theorem dX7_chain_35 : decode cX7_chain 35 = .ok (.if_icmp .ne 7, 3) := by decide +kernel
theorem dX7_chain_38 : decode cX7_chain 38 = .ok (.iconst 1, 1) := by decide +kernel
theorem dX7_chain_39 : decode cX7_chain 39 = .ok (.goto 4, 3) := by decide +kernel
theorem dX7_chain_42 : decode cX7_chain 42 = .ok (.iconst 0, 1) := by decide +kernel
theorem dX7_chain_43 : decode cX7_chain 43 = .ok (.bastore, 1) := by decide +kernel
theorem dX7_chain_44 : decode cX7_chain 44 = .ok (.iinc 3 1, 3) := by decide +kernel
theorem dX7_chain_47 : decode cX7_chain 47 = .ok (.goto (-34), 3) := by decide +kernel
theorem dX7_chain_50 : decode cX7_chain 50 = .ok (.iconst 1, 1) := by decide +kernel
theorem dX7_chain_51 : decode cX7_chain 51 = .ok (.istore_n 3, 1) := by decide +kernel
theorem dX7_chain_52 : decode cX7_chain 52 = .ok (.iload_n 3, 1) := by decide +kernel
theorem dX7_chain_53 : decode cX7_chain 53 = .ok (.bipush 64, 2) := by decide +kernel
theorem dX7_chain_55 : decode cX7_chain 55 = .ok (.if_icmp .ge 178, 3) := by decide +kernel
theorem dX7_chain_58 : decode cX7_chain 58 = .ok (.iconst (-1), 1) := by decide +kernel
theorem dX7_chain_59 : decode cX7_chain 59 = .ok (.istore 4, 2) := by decide +kernel
theorem dX7_chain_61 : decode cX7_chain 61 = .ok (.iconst 0, 1) := by decide +kernel
theorem dX7_chain_62 : decode cX7_chain 62 = .ok (.istore 5, 2) := by decide +kernel
theorem dX7_chain_64 : decode cX7_chain 64 = .ok (.iload 5, 2) := by decide +kernel
theorem dX7_chain_66 : decode cX7_chain 66 = .ok (.bipush 6, 2) := by decide +kernel
theorem dX7_chain_68 : decode cX7_chain 68 = .ok (.if_icmp .ge 20, 3) := by decide +kernel
theorem dX7_chain_71 : decode cX7_chain 71 = .ok (.iload 4, 2) := by decide +kernel
theorem dX7_chain_73 : decode cX7_chain 73 = .ok (.iload_n 3, 1) := by decide +kernel
theorem dX7_chain_74 : decode cX7_chain 74 = .ok (.iload 5, 2) := by decide +kernel
theorem dX7_chain_76 : decode cX7_chain 76 = .ok (.ishr, 1) := by decide +kernel
theorem dX7_chain_77 : decode cX7_chain 77 = .ok (.iconst 1, 1) := by decide +kernel
theorem dX7_chain_78 : decode cX7_chain 78 = .ok (.iand, 1) := by decide +kernel
theorem dX7_chain_79 : decode cX7_chain 79 = .ok (.iadd, 1) := by decide +kernel
theorem dX7_chain_80 : decode cX7_chain 80 = .ok (.istore 4, 2) := by decide +kernel
theorem dX7_chain_82 : decode cX7_chain 82 = .ok (.iinc 5 1, 3) := by decide +kernel
theorem dX7_chain_85 : decode cX7_chain 85 = .ok (.goto (-21), 3) := by decide +kernel
theorem dX7_chain_88 : decode cX7_chain 88 = .ok (.iconst 0, 1) := by decide +kernel
theorem dX7_chain_89 : decode cX7_chain 89 = .ok (.istore 5, 2) := by decide +kernel
theorem dX7_chain_91 : decode cX7_chain 91 = .ok (.iload 5, 2) := by decide +kernel
theorem dX7_chain_93 : decode cX7_chain 93 = .ok (.aload_n 0, 1) := by decide +kernel
theorem dX7_chain_94 : decode cX7_chain 94 = .ok (.getfield 7, 3) := by decide +kernel
theorem dX7_chain_97 : decode cX7_chain 97 = .ok (.sipush 132, 3) := by decide +kernel
theorem dX7_chain_100 : decode cX7_chain 100 = .ok (.iaload, 1) := by decide +kernel
theorem dX7_chain_101 : decode cX7_chain 101 = .ok (.if_icmp .ge 126, 3) := by decide +kernel
theorem dX7_chain_104 : decode cX7_chain 104 = .ok (.aload_n 0, 1) := by decide +kernel
theorem dX7_chain_105 : decode cX7_chain 105 = .ok (.getfield 7, 3) := by decide +kernel
theorem dX7_chain_108 : decode cX7_chain 108 = .ok (.iload 5, 2) := by decide +kernel
theorem dX7_chain_110 : decode cX7_chain 110 = .ok (.iconst 1, 1) := by decide +kernel
theorem dX7_chain_111 : decode cX7_chain 111 = .ok (.invokestatic 69, 3) := by decide +kernel
theorem dX7_chain_114 : decode cX7_chain 114 = .ok (.iaload, 1) := by decide +kernel
theorem dX7_chain_115 : decode cX7_chain 115 = .ok (.istore 6, 2) := by decide +kernel
theorem dX7_chain_117 : decode cX7_chain 117 = .ok (.aload_n 0, 1) := by decide +kernel
theorem dX7_chain_118 : decode cX7_chain 118 = .ok (.getfield 7, 3) := by decide +kernel
theorem dX7_chain_121 : decode cX7_chain 121 = .ok (.iload 5, 2) := by decide +kernel
theorem dX7_chain_123 : decode cX7_chain 123 = .ok (.iconst 2, 1) := by decide +kernel
theorem dX7_chain_124 : decode cX7_chain 124 = .ok (.invokestatic 69, 3) := by decide +kernel
theorem dX7_chain_127 : decode cX7_chain 127 = .ok (.iaload, 1) := by decide +kernel
theorem dX7_chain_128 : decode cX7_chain 128 = .ok (.istore 7, 2) := by decide +kernel
theorem dX7_chain_130 : decode cX7_chain 130 = .ok (.aload_n 0, 1) := by decide +kernel
theorem dX7_chain_131 : decode cX7_chain 131 = .ok (.getfield 7, 3) := by decide +kernel
theorem dX7_chain_134 : decode cX7_chain 134 = .ok (.iload 5, 2) := by decide +kernel
theorem dX7_chain_136 : decode cX7_chain 136 = .ok (.iconst 3, 1) := by decide +kernel
theorem dX7_chain_137 : decode cX7_chain 137 = .ok (.invokestatic 69, 3) := by decide +kernel
theorem dX7_chain_140 : decode cX7_chain 140 = .ok (.iaload, 1) := by decide +kernel
theorem dX7_chain_141 : decode cX7_chain 141 = .ok (.iload_n 1, 1) := by decide +kernel
theorem dX7_chain_142 : decode cX7_chain 142 = .ok (.if_icmp .ne 31, 3) := by decide +kernel
theorem dX7_chain_145 : decode cX7_chain 145 = .ok (.aload_n 0, 1) := by decide +kernel
theorem dX7_chain_146 : decode cX7_chain 146 = .ok (.getfield 48, 3) := by decide +kernel
theorem dX7_chain_149 : decode cX7_chain 149 = .ok (.bipush 64, 2) := by decide +kernel
theorem dX7_chain_151 : decode cX7_chain 151 = .ok (.iload 6, 2) := by decide +kernel
theorem dX7_chain_153 : decode cX7_chain 153 = .ok (.imul, 1) := by decide +kernel
theorem dX7_chain_154 : decode cX7_chain 154 = .ok (.iload_n 3, 1) := by decide +kernel
theorem dX7_chain_155 : decode cX7_chain 155 = .ok (.iadd, 1) := by decide +kernel
theorem dX7_chain_156 : decode cX7_chain 156 = .ok (.baload, 1) := by decide +kernel
theorem dX7_chain_157 : decode cX7_chain 157 = .ok (.ifCond .eq 16, 3) := by decide +kernel
theorem dX7_chain_160 : decode cX7_chain 160 = .ok (.iload_n 3, 1) := by decide +kernel
theorem dX7_chain_161 : decode cX7_chain 161 = .ok (.iload 7, 2) := by decide +kernel
theorem dX7_chain_163 : decode cX7_chain 163 = .ok (.ishr, 1) := by decide +kernel
theorem dX7_chain_164 : decode cX7_chain 164 = .ok (.iconst 1, 1) := by decide +kernel
theorem dX7_chain_165 : decode cX7_chain 165 = .ok (.iand, 1) := by decide +kernel
theorem dX7_chain_166 : decode cX7_chain 166 = .ok (.ifCond .ne 7, 3) := by decide +kernel
theorem dX7_chain_169 : decode cX7_chain 169 = .ok (.iconst 1, 1) := by decide +kernel
theorem dX7_chain_170 : decode cX7_chain 170 = .ok (.goto 4, 3) := by decide +kernel
theorem dX7_chain_173 : decode cX7_chain 173 = .ok (.iconst 0, 1) := by decide +kernel
theorem dX7_chain_174 : decode cX7_chain 174 = .ok (.istore 8, 2) := by decide +kernel
theorem dX7_chain_176 : decode cX7_chain 176 = .ok (.iload 8, 2) := by decide +kernel
theorem dX7_chain_178 : decode cX7_chain 178 = .ok (.ifCond .eq 18, 3) := by decide +kernel
theorem dX7_chain_181 : decode cX7_chain 181 = .ok (.iload 4, 2) := by decide +kernel
theorem dX7_chain_183 : decode cX7_chain 183 = .ok (.iconst 1, 1) := by decide +kernel
theorem dX7_chain_184 : decode cX7_chain 184 = .ok (.iadd, 1) := by decide +kernel
theorem dX7_chain_185 : decode cX7_chain 185 = .ok (.iload_n 2, 1) := by decide +kernel
theorem dX7_chain_186 : decode cX7_chain 186 = .ok (.if_icmp .le 10, 3) := by decide +kernel
theorem dX7_chain_189 : decode cX7_chain 189 = .ok (.iload 4, 2) := by decide +kernel
theorem dX7_chain_191 : decode cX7_chain 191 = .ok (.iconst 1, 1) := by decide +kernel
theorem dX7_chain_192 : decode cX7_chain 192 = .ok (.iadd, 1) := by decide +kernel
theorem dX7_chain_193 : decode cX7_chain 193 = .ok (.goto 4, 3) := by decide +kernel
theorem dX7_chain_196 : decode cX7_chain 196 = .ok (.iload_n 2, 1) := by decide +kernel
theorem dX7_chain_197 : decode cX7_chain 197 = .ok (.istore_n 2, 1) := by decide +kernel
theorem dX7_chain_198 : decode cX7_chain 198 = .ok (.iload 8, 2) := by decide +kernel
theorem dX7_chain_200 : decode cX7_chain 200 = .ok (.ifCond .eq 21, 3) := by decide +kernel
theorem dX7_chain_203 : decode cX7_chain 203 = .ok (.aload_n 0, 1) := by decide +kernel
theorem dX7_chain_204 : decode cX7_chain 204 = .ok (.getfield 48, 3) := by decide +kernel
theorem dX7_chain_207 : decode cX7_chain 207 = .ok (.bipush 64, 2) := by decide +kernel
theorem dX7_chain_209 : decode cX7_chain 209 = .ok (.iload 7, 2) := by decide +kernel
theorem dX7_chain_211 : decode cX7_chain 211 = .ok (.imul, 1) := by decide +kernel
theorem dX7_chain_212 : decode cX7_chain 212 = .ok (.iload_n 3, 1) := by decide +kernel
theorem dX7_chain_213 : decode cX7_chain 213 = .ok (.iconst 1, 1) := by decide +kernel
theorem dX7_chain_214 : decode cX7_chain 214 = .ok (.iload 7, 2) := by decide +kernel
theorem dX7_chain_216 : decode cX7_chain 216 = .ok (.ishl, 1) := by decide +kernel
theorem dX7_chain_217 : decode cX7_chain 217 = .ok (.ior, 1) := by decide +kernel
theorem dX7_chain_218 : decode cX7_chain 218 = .ok (.iadd, 1) := by decide +kernel
theorem dX7_chain_219 : decode cX7_chain 219 = .ok (.iconst 1, 1) := by decide +kernel
theorem dX7_chain_220 : decode cX7_chain 220 = .ok (.bastore, 1) := by decide +kernel
theorem dX7_chain_221 : decode cX7_chain 221 = .ok (.iinc 5 1, 3) := by decide +kernel
theorem dX7_chain_224 : decode cX7_chain 224 = .ok (.goto (-133), 3) := by decide +kernel
theorem dX7_chain_227 : decode cX7_chain 227 = .ok (.iinc 3 1, 3) := by decide +kernel
theorem dX7_chain_230 : decode cX7_chain 230 = .ok (.goto (-178), 3) := by decide +kernel
theorem dX7_chain_233 : decode cX7_chain 233 = .ok (.iload_n 2, 1) := by decide +kernel
theorem dX7_chain_234 : decode cX7_chain 234 = .ok (.ireturn, 1) := by decide +kernel
theorem dX7_sumOfCells_0 : decode cX7_sumOfCells 0 = .ok (.iconst 0, 1) := by decide +kernel
theorem dX7_sumOfCells_1 : decode cX7_sumOfCells 1 = .ok (.istore_n 2, 1) := by decide +kernel
theorem dX7_sumOfCells_2 : decode cX7_sumOfCells 2 = .ok (.iconst 0, 1) := by decide +kernel
theorem dX7_sumOfCells_3 : decode cX7_sumOfCells 3 = .ok (.istore_n 3, 1) := by decide +kernel
theorem dX7_sumOfCells_4 : decode cX7_sumOfCells 4 = .ok (.iload_n 3, 1) := by decide +kernel
theorem dX7_sumOfCells_5 : decode cX7_sumOfCells 5 = .ok (.bipush 6, 2) := by decide +kernel
theorem dX7_sumOfCells_7 : decode cX7_sumOfCells 7 = .ok (.if_icmp .ge 59, 3) := by decide +kernel
theorem dX7_sumOfCells_10 : decode cX7_sumOfCells 10 = .ok (.iload_n 2, 1) := by decide +kernel
theorem dX7_sumOfCells_11 : decode cX7_sumOfCells 11 = .ok (.iload_n 1, 1) := by decide +kernel
theorem dX7_sumOfCells_12 : decode cX7_sumOfCells 12 = .ok (.iconst 2, 1) := by decide +kernel
theorem dX7_sumOfCells_13 : decode cX7_sumOfCells 13 = .ok (.if_icmp .ne 21, 3) := by decide +kernel
theorem dX7_sumOfCells_16 : decode cX7_sumOfCells 16 = .ok (.aload_n 0, 1) := by decide +kernel
theorem dX7_sumOfCells_17 : decode cX7_sumOfCells 17 = .ok (.iload_n 3, 1) := by decide +kernel
theorem dX7_sumOfCells_18 : decode cX7_sumOfCells 18 = .ok (.invokevirtual 187, 3) := by decide +kernel
theorem dX7_sumOfCells_21 : decode cX7_sumOfCells 21 = .ok (.bipush (-5), 2) := by decide +kernel
theorem dX7_sumOfCells_23 : decode cX7_sumOfCells 23 = .ok (.if_icmp .ne 7, 3) := by decide +kernel
theorem dX7_sumOfCells_26 : decode cX7_sumOfCells 26 = .ok (.iconst 0, 1) := by decide +kernel
theorem dX7_sumOfCells_27 : decode cX7_sumOfCells 27 = .ok (.goto 31, 3) := by decide +kernel
theorem dX7_sumOfCells_30 : decode cX7_sumOfCells 30 = .ok (.iconst 1, 1) := by decide +kernel
theorem dX7_sumOfCells_31 : decode cX7_sumOfCells 31 = .ok (.goto 27, 3) := by decide +kernel
theorem dX7_sumOfCells_34 : decode cX7_sumOfCells 34 = .ok (.iload_n 1, 1) := by decide +kernel
theorem dX7_sumOfCells_35 : decode cX7_sumOfCells 35 = .ok (.iconst 3, 1) := by decide +kernel
theorem dX7_sumOfCells_36 : decode cX7_sumOfCells 36 = .ok (.if_icmp .ne 15, 3) := by decide +kernel
theorem dX7_sumOfCells_39 : decode cX7_sumOfCells 39 = .ok (.aload_n 0, 1) := by decide +kernel
theorem dX7_sumOfCells_40 : decode cX7_sumOfCells 40 = .ok (.getfield 7, 3) := by decide +kernel
theorem dX7_sumOfCells_43 : decode cX7_sumOfCells 43 = .ok (.bipush 108, 2) := by decide +kernel
theorem dX7_sumOfCells_45 : decode cX7_sumOfCells 45 = .ok (.iload_n 3, 1) := by decide +kernel
theorem dX7_sumOfCells_46 : decode cX7_sumOfCells 46 = .ok (.iadd, 1) := by decide +kernel
theorem dX7_sumOfCells_47 : decode cX7_sumOfCells 47 = .ok (.iaload, 1) := by decide +kernel
theorem dX7_sumOfCells_48 : decode cX7_sumOfCells 48 = .ok (.goto 10, 3) := by decide +kernel
theorem dX7_sumOfCells_51 : decode cX7_sumOfCells 51 = .ok (.aload_n 0, 1) := by decide +kernel
theorem dX7_sumOfCells_52 : decode cX7_sumOfCells 52 = .ok (.iload_n 3, 1) := by decide +kernel
theorem dX7_sumOfCells_53 : decode cX7_sumOfCells 53 = .ok (.bipush 8, 2) := by decide +kernel
theorem dX7_sumOfCells_55 : decode cX7_sumOfCells 55 = .ok (.invokevirtual 184, 3) := by decide +kernel
theorem dX7_sumOfCells_58 : decode cX7_sumOfCells 58 = .ok (.iadd, 1) := by decide +kernel
theorem dX7_sumOfCells_59 : decode cX7_sumOfCells 59 = .ok (.istore_n 2, 1) := by decide +kernel
theorem dX7_sumOfCells_60 : decode cX7_sumOfCells 60 = .ok (.iinc 3 1, 3) := by decide +kernel
theorem dX7_sumOfCells_63 : decode cX7_sumOfCells 63 = .ok (.goto (-59), 3) := by decide +kernel
theorem dX7_sumOfCells_66 : decode cX7_sumOfCells 66 = .ok (.iload_n 2, 1) := by decide +kernel
theorem dX7_sumOfCells_67 : decode cX7_sumOfCells 67 = .ok (.ireturn, 1) := by decide +kernel
theorem dX7_count_0 : decode cX7_count 0 = .ok (.iload_n 1, 1) := by decide +kernel
theorem dX7_count_1 : decode cX7_count 1 = .ok (.tableswitch 103 0 8 #[51, 60, 69, 69, 75, 84, 69, 93, 98], 51) := by decide +kernel
theorem dX7_count_52 : decode cX7_count 52 = .ok (.aload_n 0, 1) := by decide +kernel
theorem dX7_count_53 : decode cX7_count 53 = .ok (.getfield 7, 3) := by decide +kernel
theorem dX7_count_56 : decode cX7_count 56 = .ok (.sipush 132, 3) := by decide +kernel
theorem dX7_count_59 : decode cX7_count 59 = .ok (.iaload, 1) := by decide +kernel
theorem dX7_count_60 : decode cX7_count 60 = .ok (.ireturn, 1) := by decide +kernel
theorem dX7_count_61 : decode cX7_count 61 = .ok (.aload_n 0, 1) := by decide +kernel
theorem dX7_count_62 : decode cX7_count 62 = .ok (.getfield 7, 3) := by decide +kernel
theorem dX7_count_65 : decode cX7_count 65 = .ok (.sipush 133, 3) := by decide +kernel
theorem dX7_count_68 : decode cX7_count 68 = .ok (.iaload, 1) := by decide +kernel
theorem dX7_count_69 : decode cX7_count 69 = .ok (.ireturn, 1) := by decide +kernel
theorem dX7_count_70 : decode cX7_count 70 = .ok (.aload_n 0, 1) := by decide +kernel
theorem dX7_count_71 : decode cX7_count 71 = .ok (.iload_n 1, 1) := by decide +kernel
theorem dX7_count_72 : decode cX7_count 72 = .ok (.invokevirtual 196, 3) := by decide +kernel
theorem dX7_count_75 : decode cX7_count 75 = .ok (.ireturn, 1) := by decide +kernel
theorem dX7_count_76 : decode cX7_count 76 = .ok (.aload_n 0, 1) := by decide +kernel
theorem dX7_count_77 : decode cX7_count 77 = .ok (.getfield 7, 3) := by decide +kernel
theorem dX7_count_80 : decode cX7_count 80 = .ok (.sipush 134, 3) := by decide +kernel
theorem dX7_count_83 : decode cX7_count 83 = .ok (.iaload, 1) := by decide +kernel
theorem dX7_count_84 : decode cX7_count 84 = .ok (.ireturn, 1) := by decide +kernel
theorem dX7_count_85 : decode cX7_count 85 = .ok (.aload_n 0, 1) := by decide +kernel
theorem dX7_count_86 : decode cX7_count 86 = .ok (.getfield 7, 3) := by decide +kernel
theorem dX7_count_89 : decode cX7_count 89 = .ok (.sipush 135, 3) := by decide +kernel
theorem dX7_count_92 : decode cX7_count 92 = .ok (.iaload, 1) := by decide +kernel
theorem dX7_count_93 : decode cX7_count 93 = .ok (.ireturn, 1) := by decide +kernel
theorem dX7_count_94 : decode cX7_count 94 = .ok (.aload_n 0, 1) := by decide +kernel
theorem dX7_count_95 : decode cX7_count 95 = .ok (.getfield 66, 3) := by decide +kernel
theorem dX7_count_98 : decode cX7_count 98 = .ok (.ireturn, 1) := by decide +kernel
theorem dX7_count_99 : decode cX7_count 99 = .ok (.aload_n 0, 1) := by decide +kernel
theorem dX7_count_100 : decode cX7_count 100 = .ok (.getfield 148, 3) := by decide +kernel
theorem dX7_count_103 : decode cX7_count 103 = .ok (.ireturn, 1) := by decide +kernel
theorem dX7_count_104 : decode cX7_count 104 = .ok (.bipush (-2), 2) := by decide +kernel
theorem dX7_count_106 : decode cX7_count 106 = .ok (.ireturn, 1) := by decide +kernel
theorem dJ6_bitCount_0f7a4_0 : decode cJ6_bitCount_0f7a4 0 = .ok (.iload_n 0, 1) := by decide +kernel
theorem dJ6_bitCount_0f7a4_1 : decode cJ6_bitCount_0f7a4 1 = .ok (.iload_n 0, 1) := by decide +kernel
theorem dJ6_bitCount_0f7a4_2 : decode cJ6_bitCount_0f7a4 2 = .ok (.iconst 1, 1) := by decide +kernel
theorem dJ6_bitCount_0f7a4_3 : decode cJ6_bitCount_0f7a4 3 = .ok (.iushr, 1) := by decide +kernel
theorem dJ6_bitCount_0f7a4_4 : decode cJ6_bitCount_0f7a4 4 = .ok (.ldc_w 265, 3) := by decide +kernel
theorem dJ6_bitCount_0f7a4_7 : decode cJ6_bitCount_0f7a4 7 = .ok (.iand, 1) := by decide +kernel
theorem dJ6_bitCount_0f7a4_8 : decode cJ6_bitCount_0f7a4 8 = .ok (.isub, 1) := by decide +kernel
theorem dJ6_bitCount_0f7a4_9 : decode cJ6_bitCount_0f7a4 9 = .ok (.istore_n 0, 1) := by decide +kernel
theorem dJ6_bitCount_0f7a4_10 : decode cJ6_bitCount_0f7a4 10 = .ok (.iload_n 0, 1) := by decide +kernel
theorem dJ6_bitCount_0f7a4_11 : decode cJ6_bitCount_0f7a4 11 = .ok (.ldc_w 266, 3) := by decide +kernel
theorem dJ6_bitCount_0f7a4_14 : decode cJ6_bitCount_0f7a4 14 = .ok (.iand, 1) := by decide +kernel
theorem dJ6_bitCount_0f7a4_15 : decode cJ6_bitCount_0f7a4 15 = .ok (.iload_n 0, 1) := by decide +kernel
theorem dJ6_bitCount_0f7a4_16 : decode cJ6_bitCount_0f7a4 16 = .ok (.iconst 2, 1) := by decide +kernel
theorem dJ6_bitCount_0f7a4_17 : decode cJ6_bitCount_0f7a4 17 = .ok (.iushr, 1) := by decide +kernel
theorem dJ6_bitCount_0f7a4_18 : decode cJ6_bitCount_0f7a4 18 = .ok (.ldc_w 266, 3) := by decide +kernel
theorem dJ6_bitCount_0f7a4_21 : decode cJ6_bitCount_0f7a4 21 = .ok (.iand, 1) := by decide +kernel
theorem dJ6_bitCount_0f7a4_22 : decode cJ6_bitCount_0f7a4 22 = .ok (.iadd, 1) := by decide +kernel
theorem dJ6_bitCount_0f7a4_23 : decode cJ6_bitCount_0f7a4 23 = .ok (.istore_n 0, 1) := by decide +kernel
theorem dJ6_bitCount_0f7a4_24 : decode cJ6_bitCount_0f7a4 24 = .ok (.iload_n 0, 1) := by decide +kernel
theorem dJ6_bitCount_0f7a4_25 : decode cJ6_bitCount_0f7a4 25 = .ok (.iload_n 0, 1) := by decide +kernel
theorem dJ6_bitCount_0f7a4_26 : decode cJ6_bitCount_0f7a4 26 = .ok (.iconst 4, 1) := by decide +kernel
theorem dJ6_bitCount_0f7a4_27 : decode cJ6_bitCount_0f7a4 27 = .ok (.iushr, 1) := by decide +kernel
theorem dJ6_bitCount_0f7a4_28 : decode cJ6_bitCount_0f7a4 28 = .ok (.iadd, 1) := by decide +kernel
theorem dJ6_bitCount_0f7a4_29 : decode cJ6_bitCount_0f7a4 29 = .ok (.ldc_w 267, 3) := by decide +kernel
theorem dJ6_bitCount_0f7a4_32 : decode cJ6_bitCount_0f7a4 32 = .ok (.iand, 1) := by decide +kernel
theorem dJ6_bitCount_0f7a4_33 : decode cJ6_bitCount_0f7a4 33 = .ok (.istore_n 0, 1) := by decide +kernel
theorem dJ6_bitCount_0f7a4_34 : decode cJ6_bitCount_0f7a4 34 = .ok (.iload_n 0, 1) := by decide +kernel
theorem dJ6_bitCount_0f7a4_35 : decode cJ6_bitCount_0f7a4 35 = .ok (.iload_n 0, 1) := by decide +kernel
theorem dJ6_bitCount_0f7a4_36 : decode cJ6_bitCount_0f7a4 36 = .ok (.bipush 8, 2) := by decide +kernel
theorem dJ6_bitCount_0f7a4_38 : decode cJ6_bitCount_0f7a4 38 = .ok (.iushr, 1) := by decide +kernel
theorem dJ6_bitCount_0f7a4_39 : decode cJ6_bitCount_0f7a4 39 = .ok (.iadd, 1) := by decide +kernel
theorem dJ6_bitCount_0f7a4_40 : decode cJ6_bitCount_0f7a4 40 = .ok (.istore_n 0, 1) := by decide +kernel
theorem dJ6_bitCount_0f7a4_41 : decode cJ6_bitCount_0f7a4 41 = .ok (.iload_n 0, 1) := by decide +kernel
theorem dJ6_bitCount_0f7a4_42 : decode cJ6_bitCount_0f7a4 42 = .ok (.iload_n 0, 1) := by decide +kernel
theorem dJ6_bitCount_0f7a4_43 : decode cJ6_bitCount_0f7a4 43 = .ok (.bipush 16, 2) := by decide +kernel
theorem dJ6_bitCount_0f7a4_45 : decode cJ6_bitCount_0f7a4 45 = .ok (.iushr, 1) := by decide +kernel
theorem dJ6_bitCount_0f7a4_46 : decode cJ6_bitCount_0f7a4 46 = .ok (.iadd, 1) := by decide +kernel
theorem dJ6_bitCount_0f7a4_47 : decode cJ6_bitCount_0f7a4 47 = .ok (.istore_n 0, 1) := by decide +kernel
theorem dJ6_bitCount_0f7a4_48 : decode cJ6_bitCount_0f7a4 48 = .ok (.iload_n 0, 1) := by decide +kernel
theorem dJ6_bitCount_0f7a4_49 : decode cJ6_bitCount_0f7a4 49 = .ok (.bipush 63, 2) := by decide +kernel
theorem dJ6_bitCount_0f7a4_51 : decode cJ6_bitCount_0f7a4 51 = .ok (.iand, 1) := by decide +kernel
theorem dJ6_bitCount_0f7a4_52 : decode cJ6_bitCount_0f7a4 52 = .ok (.ireturn, 1) := by decide +kernel
theorem dJ9_max_7cf53_0 : decode cJ9_max_7cf53 0 = .ok (.iload_n 0, 1) := by decide +kernel
theorem dJ9_max_7cf53_1 : decode cJ9_max_7cf53 1 = .ok (.iload_n 1, 1) := by decide +kernel
theorem dJ9_max_7cf53_2 : decode cJ9_max_7cf53 2 = .ok (.if_icmp .lt 7, 3) := by decide +kernel
theorem dJ9_max_7cf53_5 : decode cJ9_max_7cf53 5 = .ok (.iload_n 0, 1) := by decide +kernel
theorem dJ9_max_7cf53_6 : decode cJ9_max_7cf53 6 = .ok (.goto 4, 3) := by decide +kernel
theorem dJ9_max_7cf53_9 : decode cJ9_max_7cf53 9 = .ok (.iload_n 1, 1) := by decide +kernel
theorem dJ9_max_7cf53_10 : decode cJ9_max_7cf53 10 = .ok (.ireturn, 1) := by decide +kernel
theorem dJ9_min_7cf53_0 : decode cJ9_min_7cf53 0 = .ok (.iload_n 0, 1) := by decide +kernel
theorem dJ9_min_7cf53_1 : decode cJ9_min_7cf53 1 = .ok (.iload_n 1, 1) := by decide +kernel
theorem dJ9_min_7cf53_2 : decode cJ9_min_7cf53 2 = .ok (.if_icmp .gt 7, 3) := by decide +kernel
theorem dJ9_min_7cf53_5 : decode cJ9_min_7cf53 5 = .ok (.iload_n 0, 1) := by decide +kernel
theorem dJ9_min_7cf53_6 : decode cJ9_min_7cf53 6 = .ok (.goto 4, 3) := by decide +kernel
theorem dJ9_min_7cf53_9 : decode cJ9_min_7cf53 9 = .ok (.iload_n 1, 1) := by decide +kernel
theorem dJ9_min_7cf53_10 : decode cJ9_min_7cf53 10 = .ok (.ireturn, 1) := by decide +kernel
theorem dJ7_fill_53178_0 : decode cJ7_fill_53178 0 = .ok (.iconst 0, 1) := by decide +kernel
theorem dJ7_fill_53178_1 : decode cJ7_fill_53178 1 = .ok (.istore_n 2, 1) := by decide +kernel
theorem dJ7_fill_53178_2 : decode cJ7_fill_53178 2 = .ok (.aload_n 0, 1) := by decide +kernel
theorem dJ7_fill_53178_3 : decode cJ7_fill_53178 3 = .ok (.arraylength, 1) := by decide +kernel
theorem dJ7_fill_53178_4 : decode cJ7_fill_53178 4 = .ok (.istore_n 3, 1) := by decide +kernel
theorem dJ7_fill_53178_5 : decode cJ7_fill_53178 5 = .ok (.iload_n 2, 1) := by decide +kernel
theorem dJ7_fill_53178_6 : decode cJ7_fill_53178 6 = .ok (.iload_n 3, 1) := by decide +kernel
theorem dJ7_fill_53178_7 : decode cJ7_fill_53178 7 = .ok (.if_icmp .ge 13, 3) := by decide +kernel
theorem dJ7_fill_53178_10 : decode cJ7_fill_53178 10 = .ok (.aload_n 0, 1) := by decide +kernel
theorem dJ7_fill_53178_11 : decode cJ7_fill_53178 11 = .ok (.iload_n 2, 1) := by decide +kernel
theorem dJ7_fill_53178_12 : decode cJ7_fill_53178 12 = .ok (.iload_n 1, 1) := by decide +kernel
theorem dJ7_fill_53178_13 : decode cJ7_fill_53178 13 = .ok (.iastore, 1) := by decide +kernel
theorem dJ7_fill_53178_14 : decode cJ7_fill_53178 14 = .ok (.iinc 2 1, 3) := by decide +kernel
theorem dJ7_fill_53178_17 : decode cJ7_fill_53178 17 = .ok (.goto (-12), 3) := by decide +kernel
theorem dJ7_fill_53178_20 : decode cJ7_fill_53178 20 = .ok (.return_, 1) := by decide +kernel
theorem dL_law_0 : decode cL_law 0 = .ok (.new 7, 3) := by decide +kernel
theorem dL_law_3 : decode cL_law 3 = .ok (.dup, 1) := by decide +kernel
theorem dL_law_4 : decode cL_law 4 = .ok (.invokespecial 9, 3) := by decide +kernel
theorem dL_law_7 : decode cL_law 7 = .ok (.astore_n 1, 1) := by decide +kernel
theorem dL_law_8 : decode cL_law 8 = .ok (.new 10, 3) := by decide +kernel
theorem dL_law_11 : decode cL_law 11 = .ok (.dup, 1) := by decide +kernel
theorem dL_law_12 : decode cL_law 12 = .ok (.invokespecial 12, 3) := by decide +kernel
theorem dL_law_15 : decode cL_law 15 = .ok (.astore_n 2, 1) := by decide +kernel
theorem dL_law_16 : decode cL_law 16 = .ok (.iconst 0, 1) := by decide +kernel
theorem dL_law_17 : decode cL_law 17 = .ok (.istore_n 3, 1) := by decide +kernel
theorem dL_law_18 : decode cL_law 18 = .ok (.iload_n 3, 1) := by decide +kernel
theorem dL_law_19 : decode cL_law 19 = .ok (.aload_n 0, 1) := by decide +kernel
theorem dL_law_20 : decode cL_law 20 = .ok (.arraylength, 1) := by decide +kernel
theorem dL_law_21 : decode cL_law 21 = .ok (.iconst 5, 1) := by decide +kernel
theorem dL_law_22 : decode cL_law 22 = .ok (.isub, 1) := by decide +kernel
theorem dL_law_23 : decode cL_law 23 = .ok (.if_icmp .gt 826, 3) := by decide +kernel
theorem dL_law_26 : decode cL_law 26 = .ok (.aload_n 0, 1) := by decide +kernel
theorem dL_law_27 : decode cL_law 27 = .ok (.iload_n 3, 1) := by decide +kernel
theorem dL_law_28 : decode cL_law 28 = .ok (.iaload, 1) := by decide +kernel
theorem dL_law_29 : decode cL_law 29 = .ok (.bipush 31, 2) := by decide +kernel
theorem dL_law_31 : decode cL_law 31 = .ok (.iand, 1) := by decide +kernel
theorem dL_law_32 : decode cL_law 32 = .ok (.tableswitch 811 0 22 #[108, 161, 204, 227, 260, 319, 362, 395, 454, 477, 510, 535, 548, 561, 584, 597, 610, 623, 656, 699, 732, 765, 788], 108) := by decide +kernel
theorem dL_law_140 : decode cL_law 140 = .ok (.aload_n 1, 1) := by decide +kernel
theorem dL_law_141 : decode cL_law 141 = .ok (.aload_n 0, 1) := by decide +kernel
theorem dL_law_142 : decode cL_law 142 = .ok (.iload_n 3, 1) := by decide +kernel
theorem dL_law_143 : decode cL_law 143 = .ok (.iconst 1, 1) := by decide +kernel
theorem dL_law_144 : decode cL_law 144 = .ok (.iadd, 1) := by decide +kernel
theorem dL_law_145 : decode cL_law 145 = .ok (.iaload, 1) := by decide +kernel
theorem dL_law_146 : decode cL_law 146 = .ok (.aload_n 0, 1) := by decide +kernel
theorem dL_law_147 : decode cL_law 147 = .ok (.iload_n 3, 1) := by decide +kernel
theorem dL_law_148 : decode cL_law 148 = .ok (.iconst 2, 1) := by decide +kernel
theorem dL_law_149 : decode cL_law 149 = .ok (.iadd, 1) := by decide +kernel
theorem dL_law_150 : decode cL_law 150 = .ok (.iaload, 1) := by decide +kernel
theorem dL_law_151 : decode cL_law 151 = .ok (.aload_n 0, 1) := by decide +kernel
theorem dL_law_152 : decode cL_law 152 = .ok (.iload_n 3, 1) := by decide +kernel
theorem dL_law_153 : decode cL_law 153 = .ok (.iconst 3, 1) := by decide +kernel
theorem dL_law_154 : decode cL_law 154 = .ok (.iadd, 1) := by decide +kernel
theorem dL_law_155 : decode cL_law 155 = .ok (.iaload, 1) := by decide +kernel
theorem dL_law_156 : decode cL_law 156 = .ok (.aload_n 0, 1) := by decide +kernel
theorem dL_law_157 : decode cL_law 157 = .ok (.iload_n 3, 1) := by decide +kernel
theorem dL_law_158 : decode cL_law 158 = .ok (.iconst 4, 1) := by decide +kernel
theorem dL_law_159 : decode cL_law 159 = .ok (.iadd, 1) := by decide +kernel
theorem dL_law_160 : decode cL_law 160 = .ok (.iaload, 1) := by decide +kernel
theorem dL_law_161 : decode cL_law 161 = .ok (.invokevirtual 13, 3) := by decide +kernel
theorem dL_law_164 : decode cL_law 164 = .ok (.aload_n 2, 1) := by decide +kernel
theorem dL_law_165 : decode cL_law 165 = .ok (.aload_n 0, 1) := by decide +kernel
theorem dL_law_166 : decode cL_law 166 = .ok (.iload_n 3, 1) := by decide +kernel
theorem dL_law_167 : decode cL_law 167 = .ok (.iconst 1, 1) := by decide +kernel
theorem dL_law_168 : decode cL_law 168 = .ok (.iadd, 1) := by decide +kernel
theorem dL_law_169 : decode cL_law 169 = .ok (.iaload, 1) := by decide +kernel
theorem dL_law_170 : decode cL_law 170 = .ok (.aload_n 0, 1) := by decide +kernel
theorem dL_law_171 : decode cL_law 171 = .ok (.iload_n 3, 1) := by decide +kernel
theorem dL_law_172 : decode cL_law 172 = .ok (.iconst 2, 1) := by decide +kernel
theorem dL_law_173 : decode cL_law 173 = .ok (.iadd, 1) := by decide +kernel
theorem dL_law_174 : decode cL_law 174 = .ok (.iaload, 1) := by decide +kernel
theorem dL_law_175 : decode cL_law 175 = .ok (.aload_n 0, 1) := by decide +kernel
theorem dL_law_176 : decode cL_law 176 = .ok (.iload_n 3, 1) := by decide +kernel
theorem dL_law_177 : decode cL_law 177 = .ok (.iconst 3, 1) := by decide +kernel
theorem dL_law_178 : decode cL_law 178 = .ok (.iadd, 1) := by decide +kernel
theorem dL_law_179 : decode cL_law 179 = .ok (.iaload, 1) := by decide +kernel
theorem dL_law_180 : decode cL_law 180 = .ok (.aload_n 0, 1) := by decide +kernel
theorem dL_law_181 : decode cL_law 181 = .ok (.iload_n 3, 1) := by decide +kernel
theorem dL_law_182 : decode cL_law 182 = .ok (.iconst 4, 1) := by decide +kernel
theorem dL_law_183 : decode cL_law 183 = .ok (.iadd, 1) := by decide +kernel
theorem dL_law_184 : decode cL_law 184 = .ok (.iaload, 1) := by decide +kernel
theorem dL_law_185 : decode cL_law 185 = .ok (.invokevirtual 17, 3) := by decide +kernel
theorem dL_law_188 : decode cL_law 188 = .ok (.if_icmp .eq 655, 3) := by decide +kernel
theorem dL_law_191 : decode cL_law 191 = .ok (.iconst 0, 1) := by decide +kernel
theorem dL_law_192 : decode cL_law 192 = .ok (.ireturn, 1) := by decide +kernel
theorem dL_law_193 : decode cL_law 193 = .ok (.aload_n 1, 1) := by decide +kernel
theorem dL_law_194 : decode cL_law 194 = .ok (.aload_n 0, 1) := by decide +kernel
theorem dL_law_195 : decode cL_law 195 = .ok (.iload_n 3, 1) := by decide +kernel
theorem dL_law_196 : decode cL_law 196 = .ok (.iconst 1, 1) := by decide +kernel
theorem dL_law_197 : decode cL_law 197 = .ok (.iadd, 1) := by decide +kernel
theorem dL_law_198 : decode cL_law 198 = .ok (.iaload, 1) := by decide +kernel
theorem dL_law_199 : decode cL_law 199 = .ok (.aload_n 0, 1) := by decide +kernel
theorem dL_law_200 : decode cL_law 200 = .ok (.iload_n 3, 1) := by decide +kernel
theorem dL_law_201 : decode cL_law 201 = .ok (.iconst 2, 1) := by decide +kernel
theorem dL_law_202 : decode cL_law 202 = .ok (.iadd, 1) := by decide +kernel
theorem dL_law_203 : decode cL_law 203 = .ok (.iaload, 1) := by decide +kernel
theorem dL_law_204 : decode cL_law 204 = .ok (.aload_n 0, 1) := by decide +kernel
theorem dL_law_205 : decode cL_law 205 = .ok (.iload_n 3, 1) := by decide +kernel
theorem dL_law_206 : decode cL_law 206 = .ok (.iconst 3, 1) := by decide +kernel
theorem dL_law_207 : decode cL_law 207 = .ok (.iadd, 1) := by decide +kernel
theorem dL_law_208 : decode cL_law 208 = .ok (.iaload, 1) := by decide +kernel
theorem dL_law_209 : decode cL_law 209 = .ok (.invokevirtual 18, 3) := by decide +kernel
theorem dL_law_212 : decode cL_law 212 = .ok (.aload_n 2, 1) := by decide +kernel
theorem dL_law_213 : decode cL_law 213 = .ok (.aload_n 0, 1) := by decide +kernel
theorem dL_law_214 : decode cL_law 214 = .ok (.iload_n 3, 1) := by decide +kernel
theorem dL_law_215 : decode cL_law 215 = .ok (.iconst 1, 1) := by decide +kernel
theorem dL_law_216 : decode cL_law 216 = .ok (.iadd, 1) := by decide +kernel
theorem dL_law_217 : decode cL_law 217 = .ok (.iaload, 1) := by decide +kernel
theorem dL_law_218 : decode cL_law 218 = .ok (.aload_n 0, 1) := by decide +kernel
theorem dL_law_219 : decode cL_law 219 = .ok (.iload_n 3, 1) := by decide +kernel
theorem dL_law_220 : decode cL_law 220 = .ok (.iconst 2, 1) := by decide +kernel
theorem dL_law_221 : decode cL_law 221 = .ok (.iadd, 1) := by decide +kernel
theorem dL_law_222 : decode cL_law 222 = .ok (.iaload, 1) := by decide +kernel
theorem dL_law_223 : decode cL_law 223 = .ok (.aload_n 0, 1) := by decide +kernel
theorem dL_law_224 : decode cL_law 224 = .ok (.iload_n 3, 1) := by decide +kernel
theorem dL_law_225 : decode cL_law 225 = .ok (.iconst 3, 1) := by decide +kernel
theorem dL_law_226 : decode cL_law 226 = .ok (.iadd, 1) := by decide +kernel
theorem dL_law_227 : decode cL_law 227 = .ok (.iaload, 1) := by decide +kernel
theorem dL_law_228 : decode cL_law 228 = .ok (.invokevirtual 22, 3) := by decide +kernel
theorem dL_law_231 : decode cL_law 231 = .ok (.if_icmp .eq 612, 3) := by decide +kernel
theorem dL_law_234 : decode cL_law 234 = .ok (.iconst 0, 1) := by decide +kernel
theorem dL_law_235 : decode cL_law 235 = .ok (.ireturn, 1) := by decide +kernel
theorem dL_law_236 : decode cL_law 236 = .ok (.aload_n 1, 1) := by decide +kernel
theorem dL_law_237 : decode cL_law 237 = .ok (.aload_n 0, 1) := by decide +kernel
theorem dL_law_238 : decode cL_law 238 = .ok (.iload_n 3, 1) := by decide +kernel
theorem dL_law_239 : decode cL_law 239 = .ok (.iconst 1, 1) := by decide +kernel
theorem dL_law_240 : decode cL_law 240 = .ok (.iadd, 1) := by decide +kernel
theorem dL_law_241 : decode cL_law 241 = .ok (.iaload, 1) := by decide +kernel
theorem dL_law_242 : decode cL_law 242 = .ok (.invokevirtual 23, 3) := by decide +kernel
theorem dL_law_245 : decode cL_law 245 = .ok (.aload_n 2, 1) := by decide +kernel
theorem dL_law_246 : decode cL_law 246 = .ok (.aload_n 0, 1) := by decide +kernel
theorem dL_law_247 : decode cL_law 247 = .ok (.iload_n 3, 1) := by decide +kernel
theorem dL_law_248 : decode cL_law 248 = .ok (.iconst 1, 1) := by decide +kernel
theorem dL_law_249 : decode cL_law 249 = .ok (.iadd, 1) := by decide +kernel
theorem dL_law_250 : decode cL_law 250 = .ok (.iaload, 1) := by decide +kernel
theorem dL_law_251 : decode cL_law 251 = .ok (.invokevirtual 27, 3) := by decide +kernel
theorem dL_law_254 : decode cL_law 254 = .ok (.if_icmp .eq 589, 3) := by decide +kernel
theorem dL_law_257 : decode cL_law 257 = .ok (.iconst 0, 1) := by decide +kernel
theorem dL_law_258 : decode cL_law 258 = .ok (.ireturn, 1) := by decide +kernel
theorem dL_law_259 : decode cL_law 259 = .ok (.aload_n 1, 1) := by decide +kernel
theorem dL_law_260 : decode cL_law 260 = .ok (.aload_n 0, 1) := by decide +kernel
theorem dL_law_261 : decode cL_law 261 = .ok (.iload_n 3, 1) := by decide +kernel
theorem dL_law_262 : decode cL_law 262 = .ok (.iconst 1, 1) := by decide +kernel
theorem dL_law_263 : decode cL_law 263 = .ok (.iadd, 1) := by decide +kernel
theorem dL_law_264 : decode cL_law 264 = .ok (.iaload, 1) := by decide +kernel
theorem dL_law_265 : decode cL_law 265 = .ok (.aload_n 0, 1) := by decide +kernel
theorem dL_law_266 : decode cL_law 266 = .ok (.iload_n 3, 1) := by decide +kernel
theorem dL_law_267 : decode cL_law 267 = .ok (.iconst 2, 1) := by decide +kernel
theorem dL_law_268 : decode cL_law 268 = .ok (.iadd, 1) := by decide +kernel
theorem dL_law_269 : decode cL_law 269 = .ok (.iaload, 1) := by decide +kernel
theorem dL_law_270 : decode cL_law 270 = .ok (.invokevirtual 28, 3) := by decide +kernel
theorem dL_law_273 : decode cL_law 273 = .ok (.aload_n 2, 1) := by decide +kernel
theorem dL_law_274 : decode cL_law 274 = .ok (.aload_n 0, 1) := by decide +kernel
theorem dL_law_275 : decode cL_law 275 = .ok (.iload_n 3, 1) := by decide +kernel
theorem dL_law_276 : decode cL_law 276 = .ok (.iconst 1, 1) := by decide +kernel
theorem dL_law_277 : decode cL_law 277 = .ok (.iadd, 1) := by decide +kernel
theorem dL_law_278 : decode cL_law 278 = .ok (.iaload, 1) := by decide +kernel
theorem dL_law_279 : decode cL_law 279 = .ok (.aload_n 0, 1) := by decide +kernel
theorem dL_law_280 : decode cL_law 280 = .ok (.iload_n 3, 1) := by decide +kernel
theorem dL_law_281 : decode cL_law 281 = .ok (.iconst 2, 1) := by decide +kernel
theorem dL_law_282 : decode cL_law 282 = .ok (.iadd, 1) := by decide +kernel
theorem dL_law_283 : decode cL_law 283 = .ok (.iaload, 1) := by decide +kernel
theorem dL_law_284 : decode cL_law 284 = .ok (.invokevirtual 32, 3) := by decide +kernel
theorem dL_law_287 : decode cL_law 287 = .ok (.if_icmp .eq 556, 3) := by decide +kernel
theorem dL_law_290 : decode cL_law 290 = .ok (.iconst 0, 1) := by decide +kernel
theorem dL_law_291 : decode cL_law 291 = .ok (.ireturn, 1) := by decide +kernel
theorem dL_law_292 : decode cL_law 292 = .ok (.aload_n 1, 1) := by decide +kernel
theorem dL_law_293 : decode cL_law 293 = .ok (.aload_n 0, 1) := by decide +kernel
theorem dL_law_294 : decode cL_law 294 = .ok (.iload_n 3, 1) := by decide +kernel
theorem dL_law_295 : decode cL_law 295 = .ok (.iconst 1, 1) := by decide +kernel
theorem dL_law_296 : decode cL_law 296 = .ok (.iadd, 1) := by decide +kernel
theorem dL_law_297 : decode cL_law 297 = .ok (.iaload, 1) := by decide +kernel
theorem dL_law_298 : decode cL_law 298 = .ok (.aload_n 0, 1) := by decide +kernel
theorem dL_law_299 : decode cL_law 299 = .ok (.iload_n 3, 1) := by decide +kernel
theorem dL_law_300 : decode cL_law 300 = .ok (.iconst 2, 1) := by decide +kernel
theorem dL_law_301 : decode cL_law 301 = .ok (.iadd, 1) := by decide +kernel
theorem dL_law_302 : decode cL_law 302 = .ok (.iaload, 1) := by decide +kernel
theorem dL_law_303 : decode cL_law 303 = .ok (.aload_n 0, 1) := by decide +kernel
theorem dL_law_304 : decode cL_law 304 = .ok (.iload_n 3, 1) := by decide +kernel
theorem dL_law_305 : decode cL_law 305 = .ok (.iconst 3, 1) := by decide +kernel
theorem dL_law_306 : decode cL_law 306 = .ok (.iadd, 1) := by decide +kernel
theorem dL_law_307 : decode cL_law 307 = .ok (.iaload, 1) := by decide +kernel
theorem dL_law_308 : decode cL_law 308 = .ok (.ifCond .eq 7, 3) := by decide +kernel
theorem dL_law_311 : decode cL_law 311 = .ok (.iconst 1, 1) := by decide +kernel
theorem dL_law_312 : decode cL_law 312 = .ok (.goto 4, 3) := by decide +kernel
theorem dL_law_315 : decode cL_law 315 = .ok (.iconst 0, 1) := by decide +kernel
theorem dL_law_316 : decode cL_law 316 = .ok (.invokevirtual 33, 3) := by decide +kernel
theorem dL_law_319 : decode cL_law 319 = .ok (.aload_n 2, 1) := by decide +kernel
theorem dL_law_320 : decode cL_law 320 = .ok (.aload_n 0, 1) := by decide +kernel
theorem dL_law_321 : decode cL_law 321 = .ok (.iload_n 3, 1) := by decide +kernel
theorem dL_law_322 : decode cL_law 322 = .ok (.iconst 1, 1) := by decide +kernel
theorem dL_law_323 : decode cL_law 323 = .ok (.iadd, 1) := by decide +kernel
theorem dL_law_324 : decode cL_law 324 = .ok (.iaload, 1) := by decide +kernel
theorem dL_law_325 : decode cL_law 325 = .ok (.aload_n 0, 1) := by decide +kernel
theorem dL_law_326 : decode cL_law 326 = .ok (.iload_n 3, 1) := by decide +kernel
theorem dL_law_327 : decode cL_law 327 = .ok (.iconst 2, 1) := by decide +kernel
theorem dL_law_328 : decode cL_law 328 = .ok (.iadd, 1) := by decide +kernel
theorem dL_law_329 : decode cL_law 329 = .ok (.iaload, 1) := by decide +kernel
theorem dL_law_330 : decode cL_law 330 = .ok (.aload_n 0, 1) := by decide +kernel
theorem dL_law_331 : decode cL_law 331 = .ok (.iload_n 3, 1) := by decide +kernel
theorem dL_law_332 : decode cL_law 332 = .ok (.iconst 3, 1) := by decide +kernel
theorem dL_law_333 : decode cL_law 333 = .ok (.iadd, 1) := by decide +kernel
theorem dL_law_334 : decode cL_law 334 = .ok (.iaload, 1) := by decide +kernel
theorem dL_law_335 : decode cL_law 335 = .ok (.ifCond .eq 7, 3) := by decide +kernel
theorem dL_law_338 : decode cL_law 338 = .ok (.iconst 1, 1) := by decide +kernel
theorem dL_law_339 : decode cL_law 339 = .ok (.goto 4, 3) := by decide +kernel
theorem dL_law_342 : decode cL_law 342 = .ok (.iconst 0, 1) := by decide +kernel
theorem dL_law_343 : decode cL_law 343 = .ok (.invokevirtual 37, 3) := by decide +kernel
theorem dL_law_346 : decode cL_law 346 = .ok (.if_icmp .eq 497, 3) := by decide +kernel
theorem dL_law_349 : decode cL_law 349 = .ok (.iconst 0, 1) := by decide +kernel
theorem dL_law_350 : decode cL_law 350 = .ok (.ireturn, 1) := by decide +kernel
theorem dL_law_351 : decode cL_law 351 = .ok (.aload_n 1, 1) := by decide +kernel
theorem dL_law_352 : decode cL_law 352 = .ok (.aload_n 0, 1) := by decide +kernel
theorem dL_law_353 : decode cL_law 353 = .ok (.iload_n 3, 1) := by decide +kernel
theorem dL_law_354 : decode cL_law 354 = .ok (.iconst 1, 1) := by decide +kernel
theorem dL_law_355 : decode cL_law 355 = .ok (.iadd, 1) := by decide +kernel
theorem dL_law_356 : decode cL_law 356 = .ok (.iaload, 1) := by decide +kernel
theorem dL_law_357 : decode cL_law 357 = .ok (.aload_n 0, 1) := by decide +kernel
theorem dL_law_358 : decode cL_law 358 = .ok (.iload_n 3, 1) := by decide +kernel
theorem dL_law_359 : decode cL_law 359 = .ok (.iconst 2, 1) := by decide +kernel
theorem dL_law_360 : decode cL_law 360 = .ok (.iadd, 1) := by decide +kernel
theorem dL_law_361 : decode cL_law 361 = .ok (.iaload, 1) := by decide +kernel
theorem dL_law_362 : decode cL_law 362 = .ok (.aload_n 0, 1) := by decide +kernel
theorem dL_law_363 : decode cL_law 363 = .ok (.iload_n 3, 1) := by decide +kernel
theorem dL_law_364 : decode cL_law 364 = .ok (.iconst 3, 1) := by decide +kernel
theorem dL_law_365 : decode cL_law 365 = .ok (.iadd, 1) := by decide +kernel
theorem dL_law_366 : decode cL_law 366 = .ok (.iaload, 1) := by decide +kernel
theorem dL_law_367 : decode cL_law 367 = .ok (.invokevirtual 38, 3) := by decide +kernel
theorem dL_law_370 : decode cL_law 370 = .ok (.aload_n 2, 1) := by decide +kernel
theorem dL_law_371 : decode cL_law 371 = .ok (.aload_n 0, 1) := by decide +kernel
theorem dL_law_372 : decode cL_law 372 = .ok (.iload_n 3, 1) := by decide +kernel
theorem dL_law_373 : decode cL_law 373 = .ok (.iconst 1, 1) := by decide +kernel
theorem dL_law_374 : decode cL_law 374 = .ok (.iadd, 1) := by decide +kernel
theorem dL_law_375 : decode cL_law 375 = .ok (.iaload, 1) := by decide +kernel
theorem dL_law_376 : decode cL_law 376 = .ok (.aload_n 0, 1) := by decide +kernel
theorem dL_law_377 : decode cL_law 377 = .ok (.iload_n 3, 1) := by decide +kernel
theorem dL_law_378 : decode cL_law 378 = .ok (.iconst 2, 1) := by decide +kernel
theorem dL_law_379 : decode cL_law 379 = .ok (.iadd, 1) := by decide +kernel
theorem dL_law_380 : decode cL_law 380 = .ok (.iaload, 1) := by decide +kernel
theorem dL_law_381 : decode cL_law 381 = .ok (.aload_n 0, 1) := by decide +kernel
theorem dL_law_382 : decode cL_law 382 = .ok (.iload_n 3, 1) := by decide +kernel
theorem dL_law_383 : decode cL_law 383 = .ok (.iconst 3, 1) := by decide +kernel
theorem dL_law_384 : decode cL_law 384 = .ok (.iadd, 1) := by decide +kernel
theorem dL_law_385 : decode cL_law 385 = .ok (.iaload, 1) := by decide +kernel
theorem dL_law_386 : decode cL_law 386 = .ok (.invokevirtual 41, 3) := by decide +kernel
theorem dL_law_389 : decode cL_law 389 = .ok (.if_icmp .eq 454, 3) := by decide +kernel
theorem dL_law_392 : decode cL_law 392 = .ok (.iconst 0, 1) := by decide +kernel
theorem dL_law_393 : decode cL_law 393 = .ok (.ireturn, 1) := by decide +kernel
theorem dL_law_394 : decode cL_law 394 = .ok (.aload_n 1, 1) := by decide +kernel
theorem dL_law_395 : decode cL_law 395 = .ok (.aload_n 0, 1) := by decide +kernel
theorem dL_law_396 : decode cL_law 396 = .ok (.iload_n 3, 1) := by decide +kernel
theorem dL_law_397 : decode cL_law 397 = .ok (.iconst 1, 1) := by decide +kernel
theorem dL_law_398 : decode cL_law 398 = .ok (.iadd, 1) := by decide +kernel
theorem dL_law_399 : decode cL_law 399 = .ok (.iaload, 1) := by decide +kernel
theorem dL_law_400 : decode cL_law 400 = .ok (.aload_n 0, 1) := by decide +kernel
theorem dL_law_401 : decode cL_law 401 = .ok (.iload_n 3, 1) := by decide +kernel
theorem dL_law_402 : decode cL_law 402 = .ok (.iconst 2, 1) := by decide +kernel
theorem dL_law_403 : decode cL_law 403 = .ok (.iadd, 1) := by decide +kernel
theorem dL_law_404 : decode cL_law 404 = .ok (.iaload, 1) := by decide +kernel
theorem dL_law_405 : decode cL_law 405 = .ok (.invokevirtual 42, 3) := by decide +kernel
theorem dL_law_408 : decode cL_law 408 = .ok (.aload_n 2, 1) := by decide +kernel
theorem dL_law_409 : decode cL_law 409 = .ok (.aload_n 0, 1) := by decide +kernel
theorem dL_law_410 : decode cL_law 410 = .ok (.iload_n 3, 1) := by decide +kernel
theorem dL_law_411 : decode cL_law 411 = .ok (.iconst 1, 1) := by decide +kernel
theorem dL_law_412 : decode cL_law 412 = .ok (.iadd, 1) := by decide +kernel
theorem dL_law_413 : decode cL_law 413 = .ok (.iaload, 1) := by decide +kernel
theorem dL_law_414 : decode cL_law 414 = .ok (.aload_n 0, 1) := by decide +kernel
theorem dL_law_415 : decode cL_law 415 = .ok (.iload_n 3, 1) := by decide +kernel
theorem dL_law_416 : decode cL_law 416 = .ok (.iconst 2, 1) := by decide +kernel
theorem dL_law_417 : decode cL_law 417 = .ok (.iadd, 1) := by decide +kernel
theorem dL_law_418 : decode cL_law 418 = .ok (.iaload, 1) := by decide +kernel
theorem dL_law_419 : decode cL_law 419 = .ok (.invokevirtual 45, 3) := by decide +kernel
theorem dL_law_422 : decode cL_law 422 = .ok (.if_icmp .eq 421, 3) := by decide +kernel
theorem dL_law_425 : decode cL_law 425 = .ok (.iconst 0, 1) := by decide +kernel
theorem dL_law_426 : decode cL_law 426 = .ok (.ireturn, 1) := by decide +kernel
theorem dL_law_427 : decode cL_law 427 = .ok (.aload_n 1, 1) := by decide +kernel
theorem dL_law_428 : decode cL_law 428 = .ok (.aload_n 0, 1) := by decide +kernel
theorem dL_law_429 : decode cL_law 429 = .ok (.iload_n 3, 1) := by decide +kernel
theorem dL_law_430 : decode cL_law 430 = .ok (.iconst 1, 1) := by decide +kernel
theorem dL_law_431 : decode cL_law 431 = .ok (.iadd, 1) := by decide +kernel
theorem dL_law_432 : decode cL_law 432 = .ok (.iaload, 1) := by decide +kernel
theorem dL_law_433 : decode cL_law 433 = .ok (.aload_n 0, 1) := by decide +kernel
theorem dL_law_434 : decode cL_law 434 = .ok (.iload_n 3, 1) := by decide +kernel
theorem dL_law_435 : decode cL_law 435 = .ok (.iconst 2, 1) := by decide +kernel
theorem dL_law_436 : decode cL_law 436 = .ok (.iadd, 1) := by decide +kernel
theorem dL_law_437 : decode cL_law 437 = .ok (.iaload, 1) := by decide +kernel
theorem dL_law_438 : decode cL_law 438 = .ok (.aload_n 0, 1) := by decide +kernel
theorem dL_law_439 : decode cL_law 439 = .ok (.iload_n 3, 1) := by decide +kernel
theorem dL_law_440 : decode cL_law 440 = .ok (.iconst 3, 1) := by decide +kernel
theorem dL_law_441 : decode cL_law 441 = .ok (.iadd, 1) := by decide +kernel
theorem dL_law_442 : decode cL_law 442 = .ok (.iaload, 1) := by decide +kernel
theorem dL_law_443 : decode cL_law 443 = .ok (.ifCond .eq 7, 3) := by decide +kernel
theorem dL_law_446 : decode cL_law 446 = .ok (.iconst 1, 1) := by decide +kernel
theorem dL_law_447 : decode cL_law 447 = .ok (.goto 4, 3) := by decide +kernel
theorem dL_law_450 : decode cL_law 450 = .ok (.iconst 0, 1) := by decide +kernel
theorem dL_law_451 : decode cL_law 451 = .ok (.invokevirtual 46, 3) := by decide +kernel
theorem dL_law_454 : decode cL_law 454 = .ok (.aload_n 2, 1) := by decide +kernel
theorem dL_law_455 : decode cL_law 455 = .ok (.aload_n 0, 1) := by decide +kernel
theorem dL_law_456 : decode cL_law 456 = .ok (.iload_n 3, 1) := by decide +kernel
theorem dL_law_457 : decode cL_law 457 = .ok (.iconst 1, 1) := by decide +kernel
theorem dL_law_458 : decode cL_law 458 = .ok (.iadd, 1) := by decide +kernel
theorem dL_law_459 : decode cL_law 459 = .ok (.iaload, 1) := by decide +kernel
theorem dL_law_460 : decode cL_law 460 = .ok (.aload_n 0, 1) := by decide +kernel
theorem dL_law_461 : decode cL_law 461 = .ok (.iload_n 3, 1) := by decide +kernel
theorem dL_law_462 : decode cL_law 462 = .ok (.iconst 2, 1) := by decide +kernel
theorem dL_law_463 : decode cL_law 463 = .ok (.iadd, 1) := by decide +kernel
theorem dL_law_464 : decode cL_law 464 = .ok (.iaload, 1) := by decide +kernel
theorem dL_law_465 : decode cL_law 465 = .ok (.aload_n 0, 1) := by decide +kernel
theorem dL_law_466 : decode cL_law 466 = .ok (.iload_n 3, 1) := by decide +kernel
theorem dL_law_467 : decode cL_law 467 = .ok (.iconst 3, 1) := by decide +kernel
theorem dL_law_468 : decode cL_law 468 = .ok (.iadd, 1) := by decide +kernel
theorem dL_law_469 : decode cL_law 469 = .ok (.iaload, 1) := by decide +kernel
theorem dL_law_470 : decode cL_law 470 = .ok (.ifCond .eq 7, 3) := by decide +kernel
theorem dL_law_473 : decode cL_law 473 = .ok (.iconst 1, 1) := by decide +kernel
theorem dL_law_474 : decode cL_law 474 = .ok (.goto 4, 3) := by decide +kernel
theorem dL_law_477 : decode cL_law 477 = .ok (.iconst 0, 1) := by decide +kernel
theorem dL_law_478 : decode cL_law 478 = .ok (.invokevirtual 49, 3) := by decide +kernel
theorem dL_law_481 : decode cL_law 481 = .ok (.if_icmp .eq 362, 3) := by decide +kernel
theorem dL_law_484 : decode cL_law 484 = .ok (.iconst 0, 1) := by decide +kernel
theorem dL_law_485 : decode cL_law 485 = .ok (.ireturn, 1) := by decide +kernel
theorem dL_law_486 : decode cL_law 486 = .ok (.aload_n 1, 1) := by decide +kernel
theorem dL_law_487 : decode cL_law 487 = .ok (.aload_n 0, 1) := by decide +kernel
theorem dL_law_488 : decode cL_law 488 = .ok (.iload_n 3, 1) := by decide +kernel
theorem dL_law_489 : decode cL_law 489 = .ok (.iconst 1, 1) := by decide +kernel
theorem dL_law_490 : decode cL_law 490 = .ok (.iadd, 1) := by decide +kernel
theorem dL_law_491 : decode cL_law 491 = .ok (.iaload, 1) := by decide +kernel
theorem dL_law_492 : decode cL_law 492 = .ok (.invokevirtual 50, 3) := by decide +kernel
theorem dL_law_495 : decode cL_law 495 = .ok (.aload_n 2, 1) := by decide +kernel
theorem dL_law_496 : decode cL_law 496 = .ok (.aload_n 0, 1) := by decide +kernel
theorem dL_law_497 : decode cL_law 497 = .ok (.iload_n 3, 1) := by decide +kernel
theorem dL_law_498 : decode cL_law 498 = .ok (.iconst 1, 1) := by decide +kernel
theorem dL_law_499 : decode cL_law 499 = .ok (.iadd, 1) := by decide +kernel
theorem dL_law_500 : decode cL_law 500 = .ok (.iaload, 1) := by decide +kernel
theorem dL_law_501 : decode cL_law 501 = .ok (.invokevirtual 53, 3) := by decide +kernel
theorem dL_law_504 : decode cL_law 504 = .ok (.if_icmp .eq 339, 3) := by decide +kernel
theorem dL_law_507 : decode cL_law 507 = .ok (.iconst 0, 1) := by decide +kernel
theorem dL_law_508 : decode cL_law 508 = .ok (.ireturn, 1) := by decide +kernel
theorem dL_law_509 : decode cL_law 509 = .ok (.aload_n 1, 1) := by decide +kernel
theorem dL_law_510 : decode cL_law 510 = .ok (.aload_n 0, 1) := by decide +kernel
theorem dL_law_511 : decode cL_law 511 = .ok (.iload_n 3, 1) := by decide +kernel
theorem dL_law_512 : decode cL_law 512 = .ok (.iconst 1, 1) := by decide +kernel
theorem dL_law_513 : decode cL_law 513 = .ok (.iadd, 1) := by decide +kernel
theorem dL_law_514 : decode cL_law 514 = .ok (.iaload, 1) := by decide +kernel
theorem dL_law_515 : decode cL_law 515 = .ok (.aload_n 0, 1) := by decide +kernel
theorem dL_law_516 : decode cL_law 516 = .ok (.iload_n 3, 1) := by decide +kernel
theorem dL_law_517 : decode cL_law 517 = .ok (.iconst 2, 1) := by decide +kernel
theorem dL_law_518 : decode cL_law 518 = .ok (.iadd, 1) := by decide +kernel
theorem dL_law_519 : decode cL_law 519 = .ok (.iaload, 1) := by decide +kernel
theorem dL_law_520 : decode cL_law 520 = .ok (.invokevirtual 54, 3) := by decide +kernel
theorem dL_law_523 : decode cL_law 523 = .ok (.aload_n 2, 1) := by decide +kernel
theorem dL_law_524 : decode cL_law 524 = .ok (.aload_n 0, 1) := by decide +kernel
theorem dL_law_525 : decode cL_law 525 = .ok (.iload_n 3, 1) := by decide +kernel
theorem dL_law_526 : decode cL_law 526 = .ok (.iconst 1, 1) := by decide +kernel
theorem dL_law_527 : decode cL_law 527 = .ok (.iadd, 1) := by decide +kernel
theorem dL_law_528 : decode cL_law 528 = .ok (.iaload, 1) := by decide +kernel
theorem dL_law_529 : decode cL_law 529 = .ok (.aload_n 0, 1) := by decide +kernel
theorem dL_law_530 : decode cL_law 530 = .ok (.iload_n 3, 1) := by decide +kernel
theorem dL_law_531 : decode cL_law 531 = .ok (.iconst 2, 1) := by decide +kernel
theorem dL_law_532 : decode cL_law 532 = .ok (.iadd, 1) := by decide +kernel
theorem dL_law_533 : decode cL_law 533 = .ok (.iaload, 1) := by decide +kernel
theorem dL_law_534 : decode cL_law 534 = .ok (.invokevirtual 57, 3) := by decide +kernel
theorem dL_law_537 : decode cL_law 537 = .ok (.if_icmp .eq 306, 3) := by decide +kernel
theorem dL_law_540 : decode cL_law 540 = .ok (.iconst 0, 1) := by decide +kernel
theorem dL_law_541 : decode cL_law 541 = .ok (.ireturn, 1) := by decide +kernel
theorem dL_law_542 : decode cL_law 542 = .ok (.aload_n 1, 1) := by decide +kernel
theorem dL_law_543 : decode cL_law 543 = .ok (.aload_n 0, 1) := by decide +kernel
theorem dL_law_544 : decode cL_law 544 = .ok (.iload_n 3, 1) := by decide +kernel
theorem dL_law_545 : decode cL_law 545 = .ok (.iconst 1, 1) := by decide +kernel
theorem dL_law_546 : decode cL_law 546 = .ok (.iadd, 1) := by decide +kernel
theorem dL_law_547 : decode cL_law 547 = .ok (.iaload, 1) := by decide +kernel
theorem dL_law_548 : decode cL_law 548 = .ok (.i2c, 1) := by decide +kernel
theorem dL_law_549 : decode cL_law 549 = .ok (.invokevirtual 58, 3) := by decide +kernel
theorem dL_law_552 : decode cL_law 552 = .ok (.aload_n 2, 1) := by decide +kernel
theorem dL_law_553 : decode cL_law 553 = .ok (.aload_n 0, 1) := by decide +kernel
theorem dL_law_554 : decode cL_law 554 = .ok (.iload_n 3, 1) := by decide +kernel
theorem dL_law_555 : decode cL_law 555 = .ok (.iconst 1, 1) := by decide +kernel
theorem dL_law_556 : decode cL_law 556 = .ok (.iadd, 1) := by decide +kernel
theorem dL_law_557 : decode cL_law 557 = .ok (.iaload, 1) := by decide +kernel
theorem dL_law_558 : decode cL_law 558 = .ok (.i2c, 1) := by decide +kernel
theorem dL_law_559 : decode cL_law 559 = .ok (.invokevirtual 62, 3) := by decide +kernel
theorem dL_law_562 : decode cL_law 562 = .ok (.if_icmp .eq 281, 3) := by decide +kernel
theorem dL_law_565 : decode cL_law 565 = .ok (.iconst 0, 1) := by decide +kernel
theorem dL_law_566 : decode cL_law 566 = .ok (.ireturn, 1) := by decide +kernel
theorem dL_law_567 : decode cL_law 567 = .ok (.aload_n 1, 1) := by decide +kernel
theorem dL_law_568 : decode cL_law 568 = .ok (.invokevirtual 63, 3) := by decide +kernel
theorem dL_law_571 : decode cL_law 571 = .ok (.aload_n 2, 1) := by decide +kernel
theorem dL_law_572 : decode cL_law 572 = .ok (.invokevirtual 67, 3) := by decide +kernel
theorem dL_law_575 : decode cL_law 575 = .ok (.if_icmp .eq 268, 3) := by decide +kernel
theorem dL_law_578 : decode cL_law 578 = .ok (.iconst 0, 1) := by decide +kernel
theorem dL_law_579 : decode cL_law 579 = .ok (.ireturn, 1) := by decide +kernel
theorem dL_law_580 : decode cL_law 580 = .ok (.aload_n 1, 1) := by decide +kernel
theorem dL_law_581 : decode cL_law 581 = .ok (.invokevirtual 68, 3) := by decide +kernel
theorem dL_law_584 : decode cL_law 584 = .ok (.aload_n 2, 1) := by decide +kernel
theorem dL_law_585 : decode cL_law 585 = .ok (.invokevirtual 71, 3) := by decide +kernel
theorem dL_law_588 : decode cL_law 588 = .ok (.if_icmp .eq 255, 3) := by decide +kernel
theorem dL_law_591 : decode cL_law 591 = .ok (.iconst 0, 1) := by decide +kernel
theorem dL_law_592 : decode cL_law 592 = .ok (.ireturn, 1) := by decide +kernel
theorem dL_law_593 : decode cL_law 593 = .ok (.aload_n 1, 1) := by decide +kernel
theorem dL_law_594 : decode cL_law 594 = .ok (.aload_n 0, 1) := by decide +kernel
theorem dL_law_595 : decode cL_law 595 = .ok (.iload_n 3, 1) := by decide +kernel
theorem dL_law_596 : decode cL_law 596 = .ok (.iconst 1, 1) := by decide +kernel
theorem dL_law_597 : decode cL_law 597 = .ok (.iadd, 1) := by decide +kernel
theorem dL_law_598 : decode cL_law 598 = .ok (.iaload, 1) := by decide +kernel
theorem dL_law_599 : decode cL_law 599 = .ok (.invokevirtual 72, 3) := by decide +kernel
theorem dL_law_602 : decode cL_law 602 = .ok (.aload_n 2, 1) := by decide +kernel
theorem dL_law_603 : decode cL_law 603 = .ok (.aload_n 0, 1) := by decide +kernel
theorem dL_law_604 : decode cL_law 604 = .ok (.iload_n 3, 1) := by decide +kernel
theorem dL_law_605 : decode cL_law 605 = .ok (.iconst 1, 1) := by decide +kernel
theorem dL_law_606 : decode cL_law 606 = .ok (.iadd, 1) := by decide +kernel
theorem dL_law_607 : decode cL_law 607 = .ok (.iaload, 1) := by decide +kernel
theorem dL_law_608 : decode cL_law 608 = .ok (.invokevirtual 75, 3) := by decide +kernel
theorem dL_law_611 : decode cL_law 611 = .ok (.if_icmp .eq 232, 3) := by decide +kernel
theorem dL_law_614 : decode cL_law 614 = .ok (.iconst 0, 1) := by decide +kernel
theorem dL_law_615 : decode cL_law 615 = .ok (.ireturn, 1) := by decide +kernel
theorem dL_law_616 : decode cL_law 616 = .ok (.aload_n 1, 1) := by decide +kernel
theorem dL_law_617 : decode cL_law 617 = .ok (.invokevirtual 76, 3) := by decide +kernel
theorem dL_law_620 : decode cL_law 620 = .ok (.aload_n 2, 1) := by decide +kernel
theorem dL_law_621 : decode cL_law 621 = .ok (.invokevirtual 79, 3) := by decide +kernel
theorem dL_law_624 : decode cL_law 624 = .ok (.if_icmp .eq 219, 3) := by decide +kernel
theorem dL_law_627 : decode cL_law 627 = .ok (.iconst 0, 1) := by decide +kernel
theorem dL_law_628 : decode cL_law 628 = .ok (.ireturn, 1) := by decide +kernel
theorem dL_law_629 : decode cL_law 629 = .ok (.aload_n 1, 1) := by decide +kernel
theorem dL_law_630 : decode cL_law 630 = .ok (.invokevirtual 80, 3) := by decide +kernel
theorem dL_law_633 : decode cL_law 633 = .ok (.aload_n 2, 1) := by decide +kernel
theorem dL_law_634 : decode cL_law 634 = .ok (.invokevirtual 83, 3) := by decide +kernel
theorem dL_law_637 : decode cL_law 637 = .ok (.if_icmp .eq 206, 3) := by decide +kernel
theorem dL_law_640 : decode cL_law 640 = .ok (.iconst 0, 1) := by decide +kernel
theorem dL_law_641 : decode cL_law 641 = .ok (.ireturn, 1) := by decide +kernel
theorem dL_law_642 : decode cL_law 642 = .ok (.aload_n 1, 1) := by decide +kernel
theorem dL_law_643 : decode cL_law 643 = .ok (.invokevirtual 84, 3) := by decide +kernel
theorem dL_law_646 : decode cL_law 646 = .ok (.aload_n 2, 1) := by decide +kernel
theorem dL_law_647 : decode cL_law 647 = .ok (.invokevirtual 87, 3) := by decide +kernel
theorem dL_law_650 : decode cL_law 650 = .ok (.if_icmp .eq 193, 3) := by decide +kernel
theorem dL_law_653 : decode cL_law 653 = .ok (.iconst 0, 1) := by decide +kernel
theorem dL_law_654 : decode cL_law 654 = .ok (.ireturn, 1) := by decide +kernel
theorem dL_law_655 : decode cL_law 655 = .ok (.aload_n 1, 1) := by decide +kernel
theorem dL_law_656 : decode cL_law 656 = .ok (.aload_n 0, 1) := by decide +kernel
theorem dL_law_657 : decode cL_law 657 = .ok (.iload_n 3, 1) := by decide +kernel
theorem dL_law_658 : decode cL_law 658 = .ok (.iconst 1, 1) := by decide +kernel
theorem dL_law_659 : decode cL_law 659 = .ok (.iadd, 1) := by decide +kernel
theorem dL_law_660 : decode cL_law 660 = .ok (.iaload, 1) := by decide +kernel
theorem dL_law_661 : decode cL_law 661 = .ok (.aload_n 0, 1) := by decide +kernel
theorem dL_law_662 : decode cL_law 662 = .ok (.iload_n 3, 1) := by decide +kernel
theorem dL_law_663 : decode cL_law 663 = .ok (.iconst 2, 1) := by decide +kernel
theorem dL_law_664 : decode cL_law 664 = .ok (.iadd, 1) := by decide +kernel
theorem dL_law_665 : decode cL_law 665 = .ok (.iaload, 1) := by decide +kernel
theorem dL_law_666 : decode cL_law 666 = .ok (.invokevirtual 88, 3) := by decide +kernel
theorem dL_law_669 : decode cL_law 669 = .ok (.aload_n 2, 1) := by decide +kernel
theorem dL_law_670 : decode cL_law 670 = .ok (.aload_n 0, 1) := by decide +kernel
theorem dL_law_671 : decode cL_law 671 = .ok (.iload_n 3, 1) := by decide +kernel
theorem dL_law_672 : decode cL_law 672 = .ok (.iconst 1, 1) := by decide +kernel
theorem dL_law_673 : decode cL_law 673 = .ok (.iadd, 1) := by decide +kernel
theorem dL_law_674 : decode cL_law 674 = .ok (.iaload, 1) := by decide +kernel
theorem dL_law_675 : decode cL_law 675 = .ok (.aload_n 0, 1) := by decide +kernel
theorem dL_law_676 : decode cL_law 676 = .ok (.iload_n 3, 1) := by decide +kernel
theorem dL_law_677 : decode cL_law 677 = .ok (.iconst 2, 1) := by decide +kernel
theorem dL_law_678 : decode cL_law 678 = .ok (.iadd, 1) := by decide +kernel
theorem dL_law_679 : decode cL_law 679 = .ok (.iaload, 1) := by decide +kernel
theorem dL_law_680 : decode cL_law 680 = .ok (.invokevirtual 91, 3) := by decide +kernel
theorem dL_law_683 : decode cL_law 683 = .ok (.if_icmp .eq 160, 3) := by decide +kernel
theorem dL_law_686 : decode cL_law 686 = .ok (.iconst 0, 1) := by decide +kernel
theorem dL_law_687 : decode cL_law 687 = .ok (.ireturn, 1) := by decide +kernel
theorem dL_law_688 : decode cL_law 688 = .ok (.aload_n 1, 1) := by decide +kernel
theorem dL_law_689 : decode cL_law 689 = .ok (.aload_n 0, 1) := by decide +kernel
theorem dL_law_690 : decode cL_law 690 = .ok (.iload_n 3, 1) := by decide +kernel
theorem dL_law_691 : decode cL_law 691 = .ok (.iconst 1, 1) := by decide +kernel
theorem dL_law_692 : decode cL_law 692 = .ok (.iadd, 1) := by decide +kernel
theorem dL_law_693 : decode cL_law 693 = .ok (.iaload, 1) := by decide +kernel
theorem dL_law_694 : decode cL_law 694 = .ok (.aload_n 0, 1) := by decide +kernel
theorem dL_law_695 : decode cL_law 695 = .ok (.iload_n 3, 1) := by decide +kernel
theorem dL_law_696 : decode cL_law 696 = .ok (.iconst 2, 1) := by decide +kernel
theorem dL_law_697 : decode cL_law 697 = .ok (.iadd, 1) := by decide +kernel
theorem dL_law_698 : decode cL_law 698 = .ok (.iaload, 1) := by decide +kernel
theorem dL_law_699 : decode cL_law 699 = .ok (.aload_n 0, 1) := by decide +kernel
theorem dL_law_700 : decode cL_law 700 = .ok (.iload_n 3, 1) := by decide +kernel
theorem dL_law_701 : decode cL_law 701 = .ok (.iconst 3, 1) := by decide +kernel
theorem dL_law_702 : decode cL_law 702 = .ok (.iadd, 1) := by decide +kernel
theorem dL_law_703 : decode cL_law 703 = .ok (.iaload, 1) := by decide +kernel
theorem dL_law_704 : decode cL_law 704 = .ok (.invokevirtual 92, 3) := by decide +kernel
theorem dL_law_707 : decode cL_law 707 = .ok (.aload_n 2, 1) := by decide +kernel
theorem dL_law_708 : decode cL_law 708 = .ok (.aload_n 0, 1) := by decide +kernel
theorem dL_law_709 : decode cL_law 709 = .ok (.iload_n 3, 1) := by decide +kernel
theorem dL_law_710 : decode cL_law 710 = .ok (.iconst 1, 1) := by decide +kernel
theorem dL_law_711 : decode cL_law 711 = .ok (.iadd, 1) := by decide +kernel
theorem dL_law_712 : decode cL_law 712 = .ok (.iaload, 1) := by decide +kernel
theorem dL_law_713 : decode cL_law 713 = .ok (.aload_n 0, 1) := by decide +kernel
theorem dL_law_714 : decode cL_law 714 = .ok (.iload_n 3, 1) := by decide +kernel
theorem dL_law_715 : decode cL_law 715 = .ok (.iconst 2, 1) := by decide +kernel
theorem dL_law_716 : decode cL_law 716 = .ok (.iadd, 1) := by decide +kernel
theorem dL_law_717 : decode cL_law 717 = .ok (.iaload, 1) := by decide +kernel
theorem dL_law_718 : decode cL_law 718 = .ok (.aload_n 0, 1) := by decide +kernel
theorem dL_law_719 : decode cL_law 719 = .ok (.iload_n 3, 1) := by decide +kernel
theorem dL_law_720 : decode cL_law 720 = .ok (.iconst 3, 1) := by decide +kernel
theorem dL_law_721 : decode cL_law 721 = .ok (.iadd, 1) := by decide +kernel
theorem dL_law_722 : decode cL_law 722 = .ok (.iaload, 1) := by decide +kernel
theorem dL_law_723 : decode cL_law 723 = .ok (.invokevirtual 95, 3) := by decide +kernel
theorem dL_law_726 : decode cL_law 726 = .ok (.if_icmp .eq 117, 3) := by decide +kernel
theorem dL_law_729 : decode cL_law 729 = .ok (.iconst 0, 1) := by decide +kernel
theorem dL_law_730 : decode cL_law 730 = .ok (.ireturn, 1) := by decide +kernel
theorem dL_law_731 : decode cL_law 731 = .ok (.aload_n 1, 1) := by decide +kernel
theorem dL_law_732 : decode cL_law 732 = .ok (.aload_n 0, 1) := by decide +kernel
theorem dL_law_733 : decode cL_law 733 = .ok (.iload_n 3, 1) := by decide +kernel
theorem dL_law_734 : decode cL_law 734 = .ok (.iconst 1, 1) := by decide +kernel
theorem dL_law_735 : decode cL_law 735 = .ok (.iadd, 1) := by decide +kernel
theorem dL_law_736 : decode cL_law 736 = .ok (.iaload, 1) := by decide +kernel
theorem dL_law_737 : decode cL_law 737 = .ok (.aload_n 0, 1) := by decide +kernel
theorem dL_law_738 : decode cL_law 738 = .ok (.iload_n 3, 1) := by decide +kernel
theorem dL_law_739 : decode cL_law 739 = .ok (.iconst 2, 1) := by decide +kernel
theorem dL_law_740 : decode cL_law 740 = .ok (.iadd, 1) := by decide +kernel
theorem dL_law_741 : decode cL_law 741 = .ok (.iaload, 1) := by decide +kernel
theorem dL_law_742 : decode cL_law 742 = .ok (.invokevirtual 96, 3) := by decide +kernel
theorem dL_law_745 : decode cL_law 745 = .ok (.aload_n 2, 1) := by decide +kernel
theorem dL_law_746 : decode cL_law 746 = .ok (.aload_n 0, 1) := by decide +kernel
theorem dL_law_747 : decode cL_law 747 = .ok (.iload_n 3, 1) := by decide +kernel
theorem dL_law_748 : decode cL_law 748 = .ok (.iconst 1, 1) := by decide +kernel
theorem dL_law_749 : decode cL_law 749 = .ok (.iadd, 1) := by decide +kernel
theorem dL_law_750 : decode cL_law 750 = .ok (.iaload, 1) := by decide +kernel
theorem dL_law_751 : decode cL_law 751 = .ok (.aload_n 0, 1) := by decide +kernel
theorem dL_law_752 : decode cL_law 752 = .ok (.iload_n 3, 1) := by decide +kernel
theorem dL_law_753 : decode cL_law 753 = .ok (.iconst 2, 1) := by decide +kernel
theorem dL_law_754 : decode cL_law 754 = .ok (.iadd, 1) := by decide +kernel
theorem dL_law_755 : decode cL_law 755 = .ok (.iaload, 1) := by decide +kernel
theorem dL_law_756 : decode cL_law 756 = .ok (.invokevirtual 99, 3) := by decide +kernel
theorem dL_law_759 : decode cL_law 759 = .ok (.if_icmp .eq 84, 3) := by decide +kernel
theorem dL_law_762 : decode cL_law 762 = .ok (.iconst 0, 1) := by decide +kernel
theorem dL_law_763 : decode cL_law 763 = .ok (.ireturn, 1) := by decide +kernel
theorem dL_law_764 : decode cL_law 764 = .ok (.aload_n 1, 1) := by decide +kernel
theorem dL_law_765 : decode cL_law 765 = .ok (.aload_n 0, 1) := by decide +kernel
theorem dL_law_766 : decode cL_law 766 = .ok (.iload_n 3, 1) := by decide +kernel
theorem dL_law_767 : decode cL_law 767 = .ok (.iconst 1, 1) := by decide +kernel
theorem dL_law_768 : decode cL_law 768 = .ok (.iadd, 1) := by decide +kernel
theorem dL_law_769 : decode cL_law 769 = .ok (.iaload, 1) := by decide +kernel
theorem dL_law_770 : decode cL_law 770 = .ok (.aload_n 0, 1) := by decide +kernel
theorem dL_law_771 : decode cL_law 771 = .ok (.iload_n 3, 1) := by decide +kernel
theorem dL_law_772 : decode cL_law 772 = .ok (.iconst 2, 1) := by decide +kernel
theorem dL_law_773 : decode cL_law 773 = .ok (.iadd, 1) := by decide +kernel
theorem dL_law_774 : decode cL_law 774 = .ok (.iaload, 1) := by decide +kernel
theorem dL_law_775 : decode cL_law 775 = .ok (.invokevirtual 100, 3) := by decide +kernel
theorem dL_law_778 : decode cL_law 778 = .ok (.aload_n 2, 1) := by decide +kernel
theorem dL_law_779 : decode cL_law 779 = .ok (.aload_n 0, 1) := by decide +kernel
theorem dL_law_780 : decode cL_law 780 = .ok (.iload_n 3, 1) := by decide +kernel
theorem dL_law_781 : decode cL_law 781 = .ok (.iconst 1, 1) := by decide +kernel
theorem dL_law_782 : decode cL_law 782 = .ok (.iadd, 1) := by decide +kernel
theorem dL_law_783 : decode cL_law 783 = .ok (.iaload, 1) := by decide +kernel
theorem dL_law_784 : decode cL_law 784 = .ok (.aload_n 0, 1) := by decide +kernel
theorem dL_law_785 : decode cL_law 785 = .ok (.iload_n 3, 1) := by decide +kernel
theorem dL_law_786 : decode cL_law 786 = .ok (.iconst 2, 1) := by decide +kernel
theorem dL_law_787 : decode cL_law 787 = .ok (.iadd, 1) := by decide +kernel
theorem dL_law_788 : decode cL_law 788 = .ok (.iaload, 1) := by decide +kernel
theorem dL_law_789 : decode cL_law 789 = .ok (.invokevirtual 103, 3) := by decide +kernel
theorem dL_law_792 : decode cL_law 792 = .ok (.if_icmp .eq 51, 3) := by decide +kernel
theorem dL_law_795 : decode cL_law 795 = .ok (.iconst 0, 1) := by decide +kernel
theorem dL_law_796 : decode cL_law 796 = .ok (.ireturn, 1) := by decide +kernel
theorem dL_law_797 : decode cL_law 797 = .ok (.aload_n 1, 1) := by decide +kernel
theorem dL_law_798 : decode cL_law 798 = .ok (.aload_n 0, 1) := by decide +kernel
theorem dL_law_799 : decode cL_law 799 = .ok (.iload_n 3, 1) := by decide +kernel
theorem dL_law_800 : decode cL_law 800 = .ok (.iconst 1, 1) := by decide +kernel
theorem dL_law_801 : decode cL_law 801 = .ok (.iadd, 1) := by decide +kernel
theorem dL_law_802 : decode cL_law 802 = .ok (.iaload, 1) := by decide +kernel
theorem dL_law_803 : decode cL_law 803 = .ok (.invokevirtual 104, 3) := by decide +kernel
theorem dL_law_806 : decode cL_law 806 = .ok (.aload_n 2, 1) := by decide +kernel
theorem dL_law_807 : decode cL_law 807 = .ok (.aload_n 0, 1) := by decide +kernel
theorem dL_law_808 : decode cL_law 808 = .ok (.iload_n 3, 1) := by decide +kernel
theorem dL_law_809 : decode cL_law 809 = .ok (.iconst 1, 1) := by decide +kernel
theorem dL_law_810 : decode cL_law 810 = .ok (.iadd, 1) := by decide +kernel
theorem dL_law_811 : decode cL_law 811 = .ok (.iaload, 1) := by decide +kernel
theorem dL_law_812 : decode cL_law 812 = .ok (.invokevirtual 107, 3) := by decide +kernel
theorem dL_law_815 : decode cL_law 815 = .ok (.if_icmp .eq 28, 3) := by decide +kernel
theorem dL_law_818 : decode cL_law 818 = .ok (.iconst 0, 1) := by decide +kernel
theorem dL_law_819 : decode cL_law 819 = .ok (.ireturn, 1) := by decide +kernel
theorem dL_law_820 : decode cL_law 820 = .ok (.aload_n 1, 1) := by decide +kernel
theorem dL_law_821 : decode cL_law 821 = .ok (.aload_n 0, 1) := by decide +kernel
theorem dL_law_822 : decode cL_law 822 = .ok (.iload_n 3, 1) := by decide +kernel
theorem dL_law_823 : decode cL_law 823 = .ok (.iconst 1, 1) := by decide +kernel
theorem dL_law_824 : decode cL_law 824 = .ok (.iadd, 1) := by decide +kernel
theorem dL_law_825 : decode cL_law 825 = .ok (.iaload, 1) := by decide +kernel
theorem dL_law_826 : decode cL_law 826 = .ok (.invokevirtual 108, 3) := by decide +kernel
theorem dL_law_829 : decode cL_law 829 = .ok (.aload_n 2, 1) := by decide +kernel
theorem dL_law_830 : decode cL_law 830 = .ok (.aload_n 0, 1) := by decide +kernel
theorem dL_law_831 : decode cL_law 831 = .ok (.iload_n 3, 1) := by decide +kernel
theorem dL_law_832 : decode cL_law 832 = .ok (.iconst 1, 1) := by decide +kernel
theorem dL_law_833 : decode cL_law 833 = .ok (.iadd, 1) := by decide +kernel
theorem dL_law_834 : decode cL_law 834 = .ok (.iaload, 1) := by decide +kernel
theorem dL_law_835 : decode cL_law 835 = .ok (.invokevirtual 111, 3) := by decide +kernel
theorem dL_law_838 : decode cL_law 838 = .ok (.if_icmp .eq 5, 3) := by decide +kernel
theorem dL_law_841 : decode cL_law 841 = .ok (.iconst 0, 1) := by decide +kernel
theorem dL_law_842 : decode cL_law 842 = .ok (.ireturn, 1) := by decide +kernel
theorem dL_law_843 : decode cL_law 843 = .ok (.iinc 3 5, 3) := by decide +kernel
theorem dL_law_846 : decode cL_law 846 = .ok (.goto (-828), 3) := by decide +kernel
theorem dL_law_849 : decode cL_law 849 = .ok (.iconst 1, 1) := by decide +kernel
theorem dL_law_850 : decode cL_law 850 = .ok (.ireturn, 1) := by decide +kernel
end
section
/-! The abstract machine: one world of 140 cells (class 0..127, reference 128..139), ints as Int, references as cell numbers. -/
abbrev zA : Type := Int ⊕ (Int64 ⊕ Option Nat)
abbrev zI (a : Int) : zA := .inl a
abbrev zL (a : Int64) : zA := .inr (.inl a)
abbrev zR (k : Nat) : zA := .inr (.inr (some k))
abbrev zN : zA := .inr (.inr none)
abbrev zH : Type := Nat → Nat → Int
def zc (ad : Nat → Nat) (v : zA) : Value := match v with
  | .inl a => .int (Int32.ofInt a)
  | .inr (.inl x) => .long x
  | .inr (.inr none) => .null
  | .inr (.inr (some k)) => .ref (ad k)
def zcat (v : zA) : Nat := match v with
  | .inr (.inl _) => 2
  | _ => 1
def zw1 (a : Int) : Prop := (Int32.ofInt a).toInt = a
def zw (v : zA) : Prop := match v with
  | .inl a => zw1 a
  | .inr _ => True
def zwS : List zA → Prop
  | [] => True
  | v :: r => zw v ∧ zwS r
def zwH (h : zH) : Prop := ∀ k j, zw1 (h k j)
def zwr (a : Int) : Int := (Int32.ofInt a).toInt
/-- a cell's slot gets a value -/
def zu (h : zH) (k j : Nat) (a : Int) : zH := fun k' j' => if k' = k ∧ j' = j then a else h k' j'
/-- System.arraycopy -/
def zcp (h : zH) (ks sp kd dp n : Nat) : zH := fun k j => if k = kd ∧ dp ≤ j ∧ j < dp + n then h ks (sp + (j - dp)) else h k j
theorem zc_cat (ad : Nat → Nat) (v : zA) : (zc ad v).category = zcat v := by
  rcases v with a | x | (_ | k) <;> rfl
theorem zw1_wr (a : Int) : zw1 (zwr a) := by unfold zw1 zwr; rw [Int32.ofInt_toInt]
theorem zw1_of {a : Int} (h1 : -2147483648 ≤ a) (h2 : a < 2147483648) : zw1 a := Int32.toInt_ofInt_of_le h1 h2
theorem zw1_to (x : Int32) : zw1 x.toInt := by unfold zw1; rw [Int32.ofInt_toInt]
theorem zwr_eq {a : Int} (h1 : -2147483648 ≤ a) (h2 : a < 2147483648) : zwr a = a := Int32.toInt_ofInt_of_le h1 h2
theorem zw1_bd {a : Int} (h : zw1 a) : -2147483648 ≤ a ∧ a < 2147483648 := by
  unfold zw1 at h
  have h1 := Int32.toInt_lt (Int32.ofInt a)
  have h2 := Int32.le_toInt (Int32.ofInt a)
  omega
theorem zwr_bd (a : Int) : -2147483648 ≤ zwr a ∧ zwr a < 2147483648 := zw1_bd (zw1_wr a)
theorem z_ofInt_inj {a b : Int} (ha : zw1 a) (hb : zw1 b) (h : Int32.ofInt a = Int32.ofInt b) : a = b := by
  unfold zw1 at ha hb
  rw [← ha, ← hb, h]
theorem z_lt {a b : Int} (ha : zw1 a) (hb : zw1 b) : Int32.ofInt a < Int32.ofInt b ↔ a < b := by
  unfold zw1 at ha hb
  rw [Int32.lt_iff_toInt_lt, ha, hb]
theorem z_le {a b : Int} (ha : zw1 a) (hb : zw1 b) : Int32.ofInt a ≤ Int32.ofInt b ↔ a ≤ b := by
  unfold zw1 at ha hb
  rw [Int32.le_iff_toInt_le, ha, hb]
theorem z_eq {a b : Int} (ha : zw1 a) (hb : zw1 b) : Int32.ofInt a = Int32.ofInt b ↔ a = b := ⟨z_ofInt_inj ha hb, fun h => by rw [h]⟩
theorem zw1_0 : zw1 0 := zw1_of (by decide) (by decide)
theorem z_0 : Int32.ofInt 0 = 0 := rfl
theorem z_cl {a : Int} (ha : zw1 a) : (Int32.ofInt a).toNatClampNeg = a.toNat := by
  unfold zw1 at ha
  rw [← Int32.toNat_toInt, ha]
theorem z_in {a : Int} {n : Nat} (ha : zw1 a) (h0 : 0 ≤ a) (h1 : a < (n : Int)) : vp_in (Int32.ofInt a) n := by
  unfold vp_in
  rw [z_cl ha, ← z_0, z_lt ha zw1_0]
  omega
theorem z_wr_add (a b : Int) : Int32.ofInt (zwr (a + b)) = Int32.ofInt a + Int32.ofInt b := by unfold zwr; rw [Int32.ofInt_toInt, Int32.ofInt_add]
theorem z_wr_sub (a b : Int) : Int32.ofInt (zwr (a - b)) = Int32.ofInt a - Int32.ofInt b := by unfold zwr; rw [Int32.ofInt_toInt, Int32.ofInt_sub]
theorem z_wr_mul (a b : Int) : Int32.ofInt (zwr (a * b)) = Int32.ofInt a * Int32.ofInt b := by unfold zwr; rw [Int32.ofInt_toInt, Int32.ofInt_mul]

def zand (a b : Int) : Int := (Int32.ofInt a &&& Int32.ofInt b).toInt
def zor (a b : Int) : Int := (Int32.ofInt a ||| Int32.ofInt b).toInt
def zxor (a b : Int) : Int := (Int32.ofInt a ^^^ Int32.ofInt b).toInt
def zdiv (a b : Int) : Int := (Int32.ofInt a / Int32.ofInt b).toInt
def zrem (a b : Int) : Int := (Int32.ofInt a - Int32.ofInt a / Int32.ofInt b * Int32.ofInt b).toInt
def zshl (a b : Int) : Int := (Int32.ofInt a <<< (Int32.ofInt b &&& 31)).toInt
def zshr (a b : Int) : Int := (Int32.ofInt a >>> (Int32.ofInt b &&& 31)).toInt
def zushr (a b : Int) : Int := ((Int32.ofInt a).toUInt32 >>> ((Int32.ofInt b).toUInt32 &&& Int32.toUInt32 31)).toInt32.toInt
def zlshl (x : Int64) (b : Int) : Int64 := x <<< ((Int32.ofInt b).toInt64 &&& 63)
def zlshr (x : Int64) (b : Int) : Int64 := x >>> ((Int32.ofInt b).toInt64 &&& 63)

/-- the eight states' first cells -/
def zSt (b : Nat) : Prop := b = 1 ∨ b = 16 ∨ b = 31 ∨ b = 48 ∨ b = 63 ∨ b = 78 ∨ b = 93 ∨ b = 108
/-- the cells of a state -/
def zS (ad : Nat → Nat) (cI : ClassId) (b j : Nat) (r : Nat → Int32) : va_E := match j with
  | 0 => .inr (4, [.ref (ad (b + 1)), .ref (ad (b + 2)), .ref (ad (b + 3)), .ref (ad (b + 4)), .ref (ad (b + 5)), .ref (ad (b + 6)), .ref (ad (b + 9)), .int (r 7)])
  | 1 => .inl (cI, 6, .inl r)
  | 2 => .inl (cI, 6, .inl r)
  | 3 => .inl (cI, 6, .inl r)
  | 4 => .inl (cI, 36, .inl r)
  | 5 => .inl (cI, 6, .inl r)
  | 6 => .inr (0, [.ref (ad (b + 7)), .ref (ad (b + 8))])
  | 7 => .inl (cI, 36, .inl r)
  | 8 => .inl (cI, 6, .inl r)
  | 9 => .inr (3, [.ref (ad (b + 10)), .ref (ad (b + 11)), .ref (ad (b + 12)), .ref (ad (b + 13)), .ref (ad (b + 14)), .int (r 5), .int (r 6), .int (r 7)])
  | _ => .inl (cI, 40, .inl r)
def zE (ad : Nat → Nat) (cI cZ cS : ClassId) (k : Nat) (r : Nat → Int32) : va_E :=
  if k = 0 then .inr (6, [.ref (ad 1), .ref (ad 16), .ref (ad 31), .ref (ad 46), .ref (ad 123), .ref (ad 125), .int (r 6), .int (r 7), .int (r 8), .int (r 9)])
  else if k < 46 then zS ad cI ((k - 1) / 15 * 15 + 1) ((k - 1) % 15) r
  else if k = 46 then .inr (2, [.ref (ad 47), .int (r 1), .int (r 2)])
  else if k = 47 then .inl (cS, 5, .inr (.inr (.inr (.inr (fun j => some (ad (48 + 15 * j)))))))
  else if k < 123 then zS ad cI ((k - 48) / 15 * 15 + 48) ((k - 48) % 15) r
  else if k = 123 then .inr (1, [.ref (ad 124)])
  else if k = 124 then .inl (cI, 384, .inl r)
  else if k = 125 then .inr (5, [.ref (ad 126), .int (r 1), .int (r 2), .ref (ad 127), .int (r 4)])
  else if k = 126 then .inl (cI, 60, .inl r)
  else if k = 127 then .inl (cI, 150, .inl r)
  else if k = 128 then .inr (7, [.ref (ad 129), .ref (ad 130), .ref (ad 131), .ref (ad 132), .int (r 4), .ref (ad 133), .int (r 6), .ref (ad 134), .int (r 8), .int (r 9), .int (r 10), .ref (ad 135), .ref (ad 136), .ref (ad 137), .int (r 14), .int (r 15), .int (r 16), .ref (ad 138), .int (r 18), .ref (ad 139)])
  else if k = 129 then .inl (cI, 336, .inl r)
  else if k = 130 then .inl (cI, 336, .inl r)
  else if k = 131 then .inl (cI, 336, .inl r)
  else if k = 132 then .inl (cI, 1344, .inl r)
  else if k = 133 then .inl (cI, 336, .inl r)
  else if k = 134 then .inl (cI, 60, .inl r)
  else if k = 135 then .inl (cI, 7, .inl r)
  else if k = 136 then .inl (cI, 7, .inl r)
  else if k = 137 then .inl (cZ, 7, .inl r)
  else if k = 138 then .inl (cI, 5, .inl r)
  else .inl (cZ, 384, .inl r)
def zW (ad : Nat → Nat) (cI cZ cS : ClassId) (h : zH) : va_W := (List.range 140).map fun k => (ad k, zE ad cI cZ cS k (fun j => Int32.ofInt (h k j)))
theorem zW_get {ad : Nat → Nat} {cI cZ cS : ClassId} {h : zH} {k : Nat} (hk : k < 140) : (zW ad cI cZ cS h)[k]? = some (ad k, zE ad cI cZ cS k (fun j => Int32.ofInt (h k j))) := by
  simp [zW, hk]
theorem zW_set {ad : Nat → Nat} {cI cZ cS : ClassId} {h h' : zH} {k : Nat} {e : va_E} (hk : k < 140) (hne : ∀ k', k' ≠ k → ∀ j, h' k' j = h k' j) (he : zE ad cI cZ cS k (fun j => Int32.ofInt (h' k j)) = e) : (zW ad cI cZ cS h).set k (ad k, e) = zW ad cI cZ cS h' := by
  subst he
  apply List.ext_getElem?
  intro i
  rw [List.getElem?_set]
  have hlen : (zW ad cI cZ cS h).length = 140 := by simp [zW]
  by_cases hi : k = i
  · subst hi
    rw [if_pos rfl, if_pos (by rw [hlen]; exact hk), zW_get hk]
  · rw [if_neg hi]
    by_cases hi2 : i < 140
    · rw [zW_get hi2, zW_get hi2]
      have e : (fun j => Int32.ofInt (h i j)) = (fun j => Int32.ofInt (h' i j)) := funext fun j => by rw [hne i (fun q => hi q.symm) j]
      rw [e]
    · simp [zW, hi2]
def zAd (ad : Nat → Nat) : Nat → Prop := fun q => ∃ k, k < 140 ∧ q = ad k
theorem zW_D {ad : Nat → Nat} {cI cZ cS : ClassId} {h : zH} (hi : ∀ i j, i < 140 → j < 140 → ad i = ad j → i = j) : va_D (zAd ad) (zW ad cI cZ cS h) := by
  have key : ∀ (i : Nat) (p : Nat × va_E), (zW ad cI cZ cS h)[i]? = some p → i < 140 ∧ p.1 = ad i := by
    intro i p hp
    by_cases h2 : i < 140
    · rw [zW_get h2] at hp
      cases hp
      exact ⟨h2, rfl⟩
    · simp [zW, h2] at hp
  refine ⟨fun i j p q hp hq hpq => ?_, fun k q hq => ⟨k, (key k q hq).1, (key k q hq).2⟩⟩
  obtain ⟨a1, a2⟩ := key i p hp
  obtain ⟨b1, b2⟩ := key j q hq
  exact hi i j a1 b1 (by rw [← a2, ← b2, hpq])
def zK (cI cZ cS : ClassId) : List (ClassId × FieldType) := [(cI, .int), (cZ, .boolean), (cS, .object "LentParts$State")]
def zObj (k ci : Nat) (fs : (Nat → Nat) → (Nat → Int32) → List Value) : Prop := k < 140 ∧ ∀ ad cI cZ cS r, zE ad cI cZ cS k r = .inr (ci, fs ad r)
def zArI (k n : Nat) : Prop := k < 140 ∧ n < 2147483648 ∧ ∀ ad cI cZ cS r, zE ad cI cZ cS k r = .inl (cI, n, .inl r)
def zArZ (k n : Nat) : Prop := k < 140 ∧ n < 2147483648 ∧ ∀ ad cI cZ cS r, zE ad cI cZ cS k r = .inl (cZ, n, .inl r)
/-- the words that a callee takes over -/
def zT : List Cond := lw_tbl.filter goodWord
theorem zTin {w : Cond} (h : w ∈ lw_tbl) (g : goodWord w = true) : w ∈ zT := List.mem_filter.mpr ⟨h, g⟩
theorem zTg {w : Cond} (h : w ∈ zT) : (w.onTables && w.keeps) = true ∨ ∃ ty, w = .arrayClass ty := good_of_word (List.mem_filter.mp h).2
theorem zTl {w : Cond} (h : w ∈ zT) : w ∈ lw_tbl := (List.mem_filter.mp h).1
/-- a method: its name, code, locals, what it returns -/
abbrev zM : Type := MethodName × ByteArray × Nat × Option FieldType
def zRm (d : Nat) : Room := { frames := d, cells := 0, slots := 0, locals := 60 * d }
def zQe (D : va_G) (ad : Nat → Nat) (cI cZ cS : ClassId) (Post : Option zA → zH → Prop) : Array Value → State → Outcome → State → Prop := fun _ st o t => (∃ (r : Option zA) (h' : zH), o = .returned (r.map (zc ad)) ∧ (∀ v, r = some v → zw v) ∧ zwH h' ∧ Post r h' ∧ va_P D vwCl (zW ad cI cZ cS h') t.heap) ∧ va_F (zAd ad) st t
def zNe (U : State) : Prop := va_Nw (.methodLinkNest RX4 58 yX6_isAgent "LentParts") U ∧ va_Nw (.methodLinkNest RX4 62 yX6_isCell "LentParts") U
theorem zNe.warm {s U : State} (hW : s.WarmedH U.vm) (h : zNe s) : zNe U := ⟨va_Nw.warmM hW h.1, va_Nw.warmM hW h.2⟩
theorem zNe.same {u U : State} (e : u.vm = U.vm) (h : zNe u) : zNe U := ⟨va_Nw.same rfl e h.1, va_Nw.same rfl e h.2⟩
def zPs (D : va_G) (ad : Nat → Nat) (cI cZ cS : ClassId) (as : List zA) (h : zH) : Array Value → State → Prop := fun v U => v = (as.map (zc ad)).toArray ∧ zwS as ∧ zwH h ∧ va_P D vwCl (zW ad cI cZ cS h) U.heap ∧ va_K D vwCl (zK cI cZ cS) U ∧ zNe U
abbrev zws (M : zM) : List Cond := .code M.1 M.2.1 M.2.2.1 M.2.2.2 :: zT
/-- a method's contract: in the room d, from these arguments and cells it returns, and 'Post answer cells' holds -/
def zSp (d : Nat) (M : zM) (as : List zA) (h : zH) (Post : Option zA → zH → Prop) : Prop := ∀ (l : Launch) (D : va_G) (ad : Nat → Nat) (cI cZ cS : ClassId), (∀ i j, i < 140 → j < 140 → ad i = ad j → i = j) → Met l M.1 (zws M) (zRm d) (zPs D ad cI cZ cS as h) (zQe D ad cI cZ cS Post) 0 0 (zAd ad)
abbrev zCx : Type := Program × Launch × Env × State × MethodId × Array Value × List Frame × Method × Code × va_G × (Nat → Nat) × ClassId × ClassId × ClassId
def zHy (own : String) (cc : ByteArray) (nL : Nat) (ret : Option FieldType) (Γ : zCx) : Prop := match Γ with
  | (p, l, e, s, m, args, below, meth, c, D, ad, cI, cZ, cS) => p.tables.exec = Jvm.exec ∧ c.code = cc ∧ c.maxLocals = nL ∧ meth.sig.returnType = ret ∧ meth.locks = false ∧ s.vm.findClass own = some m.cls ∧ (∀ w ∈ zT, w.before args s = true) ∧ va_K D vwCl (zK cI cZ cS) s ∧ (∀ i j, i < 140 → j < 140 → ad i = ad j → i = j) ∧ zNe s
/-- the machine at a place of a method, with these locals, this stack and these cells, comes to the method's end, where Post holds -/
def zV (own : String) (cc : ByteArray) (nL : Nat) (ret : Option FieldType) (d : Nat) (Post : Option zA → zH → Prop) (Γ : zCx) (pc : Nat) (ls : List (Nat × zA)) (st : List zA) (h : zH) : Prop := match Γ with
  | (p, l, e, s, m, args, below, meth, c, D, ad, cI, cZ, cS) => zHy own cc nL ret (p, l, e, s, m, args, below, meth, c, D, ad, cI, cZ, cS) → (∀ q ∈ ls, zw q.2) → zwS st → zwH h → ∀ (H : Heap) (locs : List Loc) (sl : Array Slot), lv_has sl nL (ls.map (fun q => (q.1, zc ad q.2))) → va_P D vwCl (zW ad cI cZ cS h) H → va_S (zAd ad) s.heap H locs → W p l e (zRm d) s m args below meth c H locs 0 0 (MQ below (zQe D ad cI cZ cS Post) args s 0 0 (zAd ad)) (F0 m pc sl (st.map (zc ad)))
section zrows
variable {own : String} {cc : ByteArray} {nL : Nat} {ret : Option FieldType} {d : Nat} {Post : Option zA → zH → Prop} {Γ : zCx} {pc : Nat} {ls ls' : List (Nat × zA)} {st : List zA} {h : zH}

theorem z_iconst {n a : Int} (hd : decode cc pc = .ok (.iconst n, 1)) (ha : (Int32.ofInt n).toInt = a) (k : zV own cc nL ret d Post Γ (pc + 1) ls (zI a :: st) h) : zV own cc nL ret d Post Γ (pc) ls (st) h := by
  obtain ⟨p, l, e, s, m, args, below, meth, c, D, ad, cI, cZ, cS⟩ := Γ
  intro Y hl hs hh H locs sl h1 h2 h3
  obtain ⟨yx, yb, ym, yr, yk, yo, yt, yK, yi, yn⟩ := id Y
  refine lv_iconst yx yb hd (v := Int32.ofInt a) (by rw [← ha, Int32.ofInt_toInt]) ?_
  exact k Y hl ⟨by rw [← ha]; exact zw1_to _, hs⟩ hh H locs sl h1 h2 h3
theorem z_bipush {n a : Int} (hd : decode cc pc = .ok (.bipush n, 2)) (ha : ((Int8.ofInt n).toInt32).toInt = a) (k : zV own cc nL ret d Post Γ (pc + 2) ls (zI a :: st) h) : zV own cc nL ret d Post Γ (pc) ls (st) h := by
  obtain ⟨p, l, e, s, m, args, below, meth, c, D, ad, cI, cZ, cS⟩ := Γ
  intro Y hl hs hh H locs sl h1 h2 h3
  obtain ⟨yx, yb, ym, yr, yk, yo, yt, yK, yi, yn⟩ := id Y
  refine lv_bipush yx yb hd (v := Int32.ofInt a) (by rw [← ha, Int32.ofInt_toInt]) ?_
  exact k Y hl ⟨by rw [← ha]; exact zw1_to _, hs⟩ hh H locs sl h1 h2 h3
theorem z_sipush {n a : Int} (hd : decode cc pc = .ok (.sipush n, 3)) (ha : ((Int16.ofInt n).toInt32).toInt = a) (k : zV own cc nL ret d Post Γ (pc + 3) ls (zI a :: st) h) : zV own cc nL ret d Post Γ (pc) ls (st) h := by
  obtain ⟨p, l, e, s, m, args, below, meth, c, D, ad, cI, cZ, cS⟩ := Γ
  intro Y hl hs hh H locs sl h1 h2 h3
  obtain ⟨yx, yb, ym, yr, yk, yo, yt, yK, yi, yn⟩ := id Y
  refine lv_sipush yx yb hd (v := Int32.ofInt a) (by rw [← ha, Int32.ofInt_toInt]) ?_
  exact k Y hl ⟨by rw [← ha]; exact zw1_to _, hs⟩ hh H locs sl h1 h2 h3
theorem z_ldcw {ix : Nat} {v : Int32} {a : Int} (hw : Cond.constant own ix v ∈ zT) (hd : decode cc pc = .ok (.ldc_w ix, 3)) (ha : v.toInt = a) (k : zV own cc nL ret d Post Γ (pc + 3) ls (zI a :: st) h) : zV own cc nL ret d Post Γ (pc) ls (st) h := by
  obtain ⟨p, l, e, s, m, args, below, meth, c, D, ad, cI, cZ, cS⟩ := Γ
  intro Y hl hs hh H locs sl h1 h2 h3
  obtain ⟨yx, yb, ym, yr, yk, yo, yt, yK, yi, yn⟩ := id Y
  refine lv_ldcw yx yb yo (v := Int32.ofInt a) (by rw [← ha, Int32.ofInt_toInt]; exact yt _ hw) hd ?_
  exact k Y hl ⟨by rw [← ha]; exact zw1_to _, hs⟩ hh H locs sl h1 h2 h3
theorem z_lconst {n : Fin 2} {x : Int64} (hd : decode cc pc = .ok (.lconst n, 1)) (ha : Int64.ofNat (n : Nat) = x) (k : zV own cc nL ret d Post Γ (pc + 1) ls (zL x :: st) h) : zV own cc nL ret d Post Γ (pc) ls (st) h := by
  obtain ⟨p, l, e, s, m, args, below, meth, c, D, ad, cI, cZ, cS⟩ := Γ
  intro Y hl hs hh H locs sl h1 h2 h3
  obtain ⟨yx, yb, ym, yr, yk, yo, yt, yK, yi, yn⟩ := id Y
  refine lv_lconst yx yb hd ha ?_
  exact k Y hl ⟨trivial, hs⟩ hh H locs sl h1 h2 h3
theorem z_null (hd : decode cc pc = .ok (.aconst_null, 1)) (k : zV own cc nL ret d Post Γ (pc + 1) ls (zN :: st) h) : zV own cc nL ret d Post Γ (pc) ls (st) h := by
  obtain ⟨p, l, e, s, m, args, below, meth, c, D, ad, cI, cZ, cS⟩ := Γ
  intro Y hl hs hh H locs sl h1 h2 h3
  obtain ⟨yx, yb, ym, yr, yk, yo, yt, yK, yi, yn⟩ := id Y
  refine lv_null yx yb hd ?_
  exact k Y hl ⟨trivial, hs⟩ hh H locs sl h1 h2 h3
theorem z_at {ad : Nat → Nat} {sl : Array Slot} (h1 : lv_has sl nL (ls.map (fun q => (q.1, zc ad q.2)))) {n i : Nat} {v : zA} (hv : ls[n]? = some (i, v)) : sl[i]? = some (.val (zc ad v)) :=
  lv_at h1 n (by rw [List.getElem?_map, hv]; rfl)
theorem z_iload {n i : Nat} {x : Int} (hd : decode cc pc = .ok (.iload i, 2)) (hv : ls[n]? = some (i, zI x)) (k : zV own cc nL ret d Post Γ (pc + 2) ls (zI x :: st) h) : zV own cc nL ret d Post Γ (pc) ls (st) h := by
  obtain ⟨p, l, e, s, m, args, below, meth, c, D, ad, cI, cZ, cS⟩ := Γ
  intro Y hl hs hh H locs sl h1 h2 h3
  obtain ⟨yx, yb, ym, yr, yk, yo, yt, yK, yi, yn⟩ := id Y
  refine lv_iload yx yb hd (z_at h1 hv) ?_
  exact k Y hl ⟨hl _ (List.mem_of_getElem? hv), hs⟩ hh H locs sl h1 h2 h3
theorem z_iload_n {n i : Nat} {f : Fin 4} {x : Int} (hd : decode cc pc = .ok (.iload_n f, 1)) (hf : (f : Nat) = i) (hv : ls[n]? = some (i, zI x)) (k : zV own cc nL ret d Post Γ (pc + 1) ls (zI x :: st) h) : zV own cc nL ret d Post Γ (pc) ls (st) h := by
  obtain ⟨p, l, e, s, m, args, below, meth, c, D, ad, cI, cZ, cS⟩ := Γ
  intro Y hl hs hh H locs sl h1 h2 h3
  obtain ⟨yx, yb, ym, yr, yk, yo, yt, yK, yi, yn⟩ := id Y
  refine lv_iload_n yx yb hd hf (z_at h1 hv) ?_
  exact k Y hl ⟨hl _ (List.mem_of_getElem? hv), hs⟩ hh H locs sl h1 h2 h3
theorem z_aload {n i : Nat} {x : Nat} (hd : decode cc pc = .ok (.aload i, 2)) (hv : ls[n]? = some (i, zR x)) (k : zV own cc nL ret d Post Γ (pc + 2) ls (zR x :: st) h) : zV own cc nL ret d Post Γ (pc) ls (st) h := by
  obtain ⟨p, l, e, s, m, args, below, meth, c, D, ad, cI, cZ, cS⟩ := Γ
  intro Y hl hs hh H locs sl h1 h2 h3
  obtain ⟨yx, yb, ym, yr, yk, yo, yt, yK, yi, yn⟩ := id Y
  refine lv_aload yx yb hd (z_at h1 hv) ?_
  exact k Y hl ⟨hl _ (List.mem_of_getElem? hv), hs⟩ hh H locs sl h1 h2 h3
theorem z_aload_n {n i : Nat} {f : Fin 4} {x : Nat} (hd : decode cc pc = .ok (.aload_n f, 1)) (hf : (f : Nat) = i) (hv : ls[n]? = some (i, zR x)) (k : zV own cc nL ret d Post Γ (pc + 1) ls (zR x :: st) h) : zV own cc nL ret d Post Γ (pc) ls (st) h := by
  obtain ⟨p, l, e, s, m, args, below, meth, c, D, ad, cI, cZ, cS⟩ := Γ
  intro Y hl hs hh H locs sl h1 h2 h3
  obtain ⟨yx, yb, ym, yr, yk, yo, yt, yK, yi, yn⟩ := id Y
  refine lv_aload_n yx yb hd hf (z_at h1 hv) ?_
  exact k Y hl ⟨hl _ (List.mem_of_getElem? hv), hs⟩ hh H locs sl h1 h2 h3
theorem z_lload {n i : Nat} {x : Int64} (hd : decode cc pc = .ok (.lload i, 2)) (hv : ls[n]? = some (i, zL x)) (k : zV own cc nL ret d Post Γ (pc + 2) ls (zL x :: st) h) : zV own cc nL ret d Post Γ (pc) ls (st) h := by
  obtain ⟨p, l, e, s, m, args, below, meth, c, D, ad, cI, cZ, cS⟩ := Γ
  intro Y hl hs hh H locs sl h1 h2 h3
  obtain ⟨yx, yb, ym, yr, yk, yo, yt, yK, yi, yn⟩ := id Y
  refine lv_lload yx yb hd (z_at h1 hv) ?_
  exact k Y hl ⟨hl _ (List.mem_of_getElem? hv), hs⟩ hh H locs sl h1 h2 h3
theorem z_lload_n {n i : Nat} {f : Fin 4} {x : Int64} (hd : decode cc pc = .ok (.lload_n f, 1)) (hf : (f : Nat) = i) (hv : ls[n]? = some (i, zL x)) (k : zV own cc nL ret d Post Γ (pc + 1) ls (zL x :: st) h) : zV own cc nL ret d Post Γ (pc) ls (st) h := by
  obtain ⟨p, l, e, s, m, args, below, meth, c, D, ad, cI, cZ, cS⟩ := Γ
  intro Y hl hs hh H locs sl h1 h2 h3
  obtain ⟨yx, yb, ym, yr, yk, yo, yt, yK, yi, yn⟩ := id Y
  refine lv_lload_n yx yb hd hf (z_at h1 hv) ?_
  exact k Y hl ⟨hl _ (List.mem_of_getElem? hv), hs⟩ hh H locs sl h1 h2 h3
theorem z_filt (ad : Nat → Nat) (i : Nat) (l : List (Nat × zA)) : (l.map (fun q => (q.1, zc ad q.2))).filter (fun q => !(q.1 == i) && !(q.1 + 1 == i && q.2.category == 2)) = (l.filter (fun q => !(q.1 == i) && !(q.1 + 1 == i && zcat q.2 == 2))).map (fun q => (q.1, zc ad q.2)) := by
  rw [List.filter_map]
  congr 1
  apply List.filter_congr
  intro q _
  simp only [Function.comp, zc_cat]
theorem z_filt2 (ad : Nat → Nat) (i : Nat) (l : List (Nat × zA)) : (l.map (fun q => (q.1, zc ad q.2))).filter (fun q => !(q.1 == i) && (!(q.1 == i + 1) && !(q.1 + 1 == i && q.2.category == 2))) = (l.filter (fun q => !(q.1 == i) && (!(q.1 == i + 1) && !(q.1 + 1 == i && zcat q.2 == 2)))).map (fun q => (q.1, zc ad q.2)) := by
  rw [List.filter_map]
  congr 1
  apply List.filter_congr
  intro q _
  simp only [Function.comp, zc_cat]
theorem z_filw {p : Nat × zA → Bool} {i : Nat} {v : zA} (hl : ∀ q ∈ ls, zw q.2) (hv : zw v) (he : (i, v) :: ls.filter p = ls') : ∀ q ∈ ls', zw q.2 := by
  subst he
  intro q hq
  rcases List.mem_cons.mp hq with rfl | hq
  · exact hv
  · exact hl q (List.mem_filter.mp hq).1
theorem z_istore {i : Nat} {x : Int} (hd : decode cc pc = .ok (.istore i, 2)) (hn : i < nL) (he : (i, zI x) :: ls.filter (fun q => !(q.1 == i) && !(q.1 + 1 == i && zcat q.2 == 2)) = ls') (k : zV own cc nL ret d Post Γ (pc + 2) ls' (st) h) : zV own cc nL ret d Post Γ (pc) ls (zI x :: st) h := by
  obtain ⟨p, l, e, s, m, args, below, meth, c, D, ad, cI, cZ, cS⟩ := Γ
  intro Y hl hs hh H locs sl h1 h2 h3
  obtain ⟨yx, yb, ym, yr, yk, yo, yt, yK, yi, yn⟩ := id Y
  refine lv_istore (lv' := ls'.map (fun q => (q.1, zc ad q.2))) yx yb hd h1 hn (by rw [z_filt ad, ← he]; rfl) (fun sl2 hs2 => ?_)
  exact k Y (z_filw hl hs.1 he) hs.2 hh H locs sl2 hs2 h2 h3
theorem z_istore_n {i : Nat} {f : Fin 4} {x : Int} (hd : decode cc pc = .ok (.istore_n f, 1)) (hf : (f : Nat) = i) (hn : i < nL) (he : (i, zI x) :: ls.filter (fun q => !(q.1 == i) && !(q.1 + 1 == i && zcat q.2 == 2)) = ls') (k : zV own cc nL ret d Post Γ (pc + 1) ls' (st) h) : zV own cc nL ret d Post Γ (pc) ls (zI x :: st) h := by
  obtain ⟨p, l, e, s, m, args, below, meth, c, D, ad, cI, cZ, cS⟩ := Γ
  intro Y hl hs hh H locs sl h1 h2 h3
  obtain ⟨yx, yb, ym, yr, yk, yo, yt, yK, yi, yn⟩ := id Y
  refine lv_istore_n (lv' := ls'.map (fun q => (q.1, zc ad q.2))) yx yb hd hf h1 hn (by rw [z_filt ad, ← he]; rfl) (fun sl2 hs2 => ?_)
  exact k Y (z_filw hl hs.1 he) hs.2 hh H locs sl2 hs2 h2 h3
theorem z_astore {i : Nat} {x : Nat} (hd : decode cc pc = .ok (.astore i, 2)) (hn : i < nL) (he : (i, zR x) :: ls.filter (fun q => !(q.1 == i) && !(q.1 + 1 == i && zcat q.2 == 2)) = ls') (k : zV own cc nL ret d Post Γ (pc + 2) ls' (st) h) : zV own cc nL ret d Post Γ (pc) ls (zR x :: st) h := by
  obtain ⟨p, l, e, s, m, args, below, meth, c, D, ad, cI, cZ, cS⟩ := Γ
  intro Y hl hs hh H locs sl h1 h2 h3
  obtain ⟨yx, yb, ym, yr, yk, yo, yt, yK, yi, yn⟩ := id Y
  refine lv_astore (lv' := ls'.map (fun q => (q.1, zc ad q.2))) yx yb hd h1 hn (by rw [z_filt ad, ← he]; rfl) (fun sl2 hs2 => ?_)
  exact k Y (z_filw hl hs.1 he) hs.2 hh H locs sl2 hs2 h2 h3
theorem z_astore_n {i : Nat} {f : Fin 4} {x : Nat} (hd : decode cc pc = .ok (.astore_n f, 1)) (hf : (f : Nat) = i) (hn : i < nL) (he : (i, zR x) :: ls.filter (fun q => !(q.1 == i) && !(q.1 + 1 == i && zcat q.2 == 2)) = ls') (k : zV own cc nL ret d Post Γ (pc + 1) ls' (st) h) : zV own cc nL ret d Post Γ (pc) ls (zR x :: st) h := by
  obtain ⟨p, l, e, s, m, args, below, meth, c, D, ad, cI, cZ, cS⟩ := Γ
  intro Y hl hs hh H locs sl h1 h2 h3
  obtain ⟨yx, yb, ym, yr, yk, yo, yt, yK, yi, yn⟩ := id Y
  refine lv_astore_n (lv' := ls'.map (fun q => (q.1, zc ad q.2))) yx yb hd hf h1 hn (by rw [z_filt ad, ← he]; rfl) (fun sl2 hs2 => ?_)
  exact k Y (z_filw hl hs.1 he) hs.2 hh H locs sl2 hs2 h2 h3
theorem z_lstore {i : Nat} {x : Int64} (hd : decode cc pc = .ok (.lstore i, 2)) (hn : i + 1 < nL) (he : (i, zL x) :: ls.filter (fun q => !(q.1 == i) && (!(q.1 == i + 1) && !(q.1 + 1 == i && zcat q.2 == 2))) = ls') (k : zV own cc nL ret d Post Γ (pc + 2) ls' (st) h) : zV own cc nL ret d Post Γ (pc) ls (zL x :: st) h := by
  obtain ⟨p, l, e, s, m, args, below, meth, c, D, ad, cI, cZ, cS⟩ := Γ
  intro Y hl hs hh H locs sl h1 h2 h3
  obtain ⟨yx, yb, ym, yr, yk, yo, yt, yK, yi, yn⟩ := id Y
  refine lv_lstore (lv' := ls'.map (fun q => (q.1, zc ad q.2))) yx yb hd h1 hn (by rw [z_filt2 ad, ← he]; rfl) (fun sl2 hs2 => ?_)
  exact k Y (z_filw hl hs.1 he) hs.2 hh H locs sl2 hs2 h2 h3
theorem z_lstore_n {i : Nat} {f : Fin 4} {x : Int64} (hd : decode cc pc = .ok (.lstore_n f, 1)) (hf : (f : Nat) = i) (hn : i + 1 < nL) (he : (i, zL x) :: ls.filter (fun q => !(q.1 == i) && (!(q.1 == i + 1) && !(q.1 + 1 == i && zcat q.2 == 2))) = ls') (k : zV own cc nL ret d Post Γ (pc + 1) ls' (st) h) : zV own cc nL ret d Post Γ (pc) ls (zL x :: st) h := by
  obtain ⟨p, l, e, s, m, args, below, meth, c, D, ad, cI, cZ, cS⟩ := Γ
  intro Y hl hs hh H locs sl h1 h2 h3
  obtain ⟨yx, yb, ym, yr, yk, yo, yt, yK, yi, yn⟩ := id Y
  refine lv_lstore_n (lv' := ls'.map (fun q => (q.1, zc ad q.2))) yx yb hd hf h1 hn (by rw [z_filt2 ad, ← he]; rfl) (fun sl2 hs2 => ?_)
  exact k Y (z_filw hl hs.1 he) hs.2 hh H locs sl2 hs2 h2 h3
theorem z_iinc {n i : Nat} {g a : Int} (hd : decode cc pc = .ok (.iinc i g, 3)) (hv : ls[n]? = some (i, zI a)) (hn : i < nL) (he : (i, zI (zwr (a + g))) :: ls.filter (fun q => !(q.1 == i) && !(q.1 + 1 == i && zcat q.2 == 2)) = ls') (k : zV own cc nL ret d Post Γ (pc + 3) ls' (st) h) : zV own cc nL ret d Post Γ (pc) ls (st) h := by
  obtain ⟨p, l, e, s, m, args, below, meth, c, D, ad, cI, cZ, cS⟩ := Γ
  intro Y hl hs hh H locs sl h1 h2 h3
  obtain ⟨yx, yb, ym, yr, yk, yo, yt, yK, yi, yn⟩ := id Y
  refine lv_iinc (k := n) (x := Int32.ofInt a) (v := Int32.ofInt (zwr (a + g))) (lv' := ls'.map (fun q => (q.1, zc ad q.2))) yx yb hd h1 (by rw [List.getElem?_map, hv]; rfl) (z_wr_add a g).symm hn (by rw [z_filt ad, ← he]; rfl) (fun sl2 hs2 => ?_)
  exact k Y (z_filw hl (v := zI (zwr (a + g))) (zw1_wr _) he) hs hh H locs sl2 hs2 h2 h3
theorem z_iadd {a b : Int} (hd : decode cc pc = .ok (.iadd, 1)) (k : zV own cc nL ret d Post Γ (pc + 1) ls (zI (zwr (a + b)) :: st) h) : zV own cc nL ret d Post Γ (pc) ls (zI b :: zI a :: st) h := by
  obtain ⟨p, l, e, s, m, args, below, meth, c, D, ad, cI, cZ, cS⟩ := Γ
  intro Y hl hs hh H locs sl h1 h2 h3
  obtain ⟨yx, yb, ym, yr, yk, yo, yt, yK, yi, yn⟩ := id Y
  refine lv_iadd yx yb hd ?_
  have k2 := k Y hl ⟨zw1_wr _, hs.2.2⟩ hh H locs sl h1 h2 h3
  rw [← z_wr_add]
  exact k2
theorem z_isub {a b : Int} (hd : decode cc pc = .ok (.isub, 1)) (k : zV own cc nL ret d Post Γ (pc + 1) ls (zI (zwr (a - b)) :: st) h) : zV own cc nL ret d Post Γ (pc) ls (zI b :: zI a :: st) h := by
  obtain ⟨p, l, e, s, m, args, below, meth, c, D, ad, cI, cZ, cS⟩ := Γ
  intro Y hl hs hh H locs sl h1 h2 h3
  obtain ⟨yx, yb, ym, yr, yk, yo, yt, yK, yi, yn⟩ := id Y
  refine lv_isub yx yb hd ?_
  have k2 := k Y hl ⟨zw1_wr _, hs.2.2⟩ hh H locs sl h1 h2 h3
  rw [← z_wr_sub]
  exact k2
theorem z_imul {a b : Int} (hd : decode cc pc = .ok (.imul, 1)) (k : zV own cc nL ret d Post Γ (pc + 1) ls (zI (zwr (a * b)) :: st) h) : zV own cc nL ret d Post Γ (pc) ls (zI b :: zI a :: st) h := by
  obtain ⟨p, l, e, s, m, args, below, meth, c, D, ad, cI, cZ, cS⟩ := Γ
  intro Y hl hs hh H locs sl h1 h2 h3
  obtain ⟨yx, yb, ym, yr, yk, yo, yt, yK, yi, yn⟩ := id Y
  refine lv_imul yx yb hd ?_
  have k2 := k Y hl ⟨zw1_wr _, hs.2.2⟩ hh H locs sl h1 h2 h3
  rw [← z_wr_mul]
  exact k2
theorem z_iand {a b : Int} (hd : decode cc pc = .ok (.iand, 1)) (k : zV own cc nL ret d Post Γ (pc + 1) ls (zI (zand a b) :: st) h) : zV own cc nL ret d Post Γ (pc) ls (zI b :: zI a :: st) h := by
  obtain ⟨p, l, e, s, m, args, below, meth, c, D, ad, cI, cZ, cS⟩ := Γ
  intro Y hl hs hh H locs sl h1 h2 h3
  obtain ⟨yx, yb, ym, yr, yk, yo, yt, yK, yi, yn⟩ := id Y
  refine lv_iand yx yb hd ?_
  have k2 := k Y hl ⟨zw1_to _, hs.2.2⟩ hh H locs sl h1 h2 h3
  simp only [List.map, zc, zand, Int32.ofInt_toInt] at k2
  exact k2
theorem z_ior {a b : Int} (hd : decode cc pc = .ok (.ior, 1)) (k : zV own cc nL ret d Post Γ (pc + 1) ls (zI (zor a b) :: st) h) : zV own cc nL ret d Post Γ (pc) ls (zI b :: zI a :: st) h := by
  obtain ⟨p, l, e, s, m, args, below, meth, c, D, ad, cI, cZ, cS⟩ := Γ
  intro Y hl hs hh H locs sl h1 h2 h3
  obtain ⟨yx, yb, ym, yr, yk, yo, yt, yK, yi, yn⟩ := id Y
  refine lv_ior yx yb hd ?_
  have k2 := k Y hl ⟨zw1_to _, hs.2.2⟩ hh H locs sl h1 h2 h3
  simp only [List.map, zc, zor, Int32.ofInt_toInt] at k2
  exact k2
theorem z_ixor {a b : Int} (hd : decode cc pc = .ok (.ixor, 1)) (k : zV own cc nL ret d Post Γ (pc + 1) ls (zI (zxor a b) :: st) h) : zV own cc nL ret d Post Γ (pc) ls (zI b :: zI a :: st) h := by
  obtain ⟨p, l, e, s, m, args, below, meth, c, D, ad, cI, cZ, cS⟩ := Γ
  intro Y hl hs hh H locs sl h1 h2 h3
  obtain ⟨yx, yb, ym, yr, yk, yo, yt, yK, yi, yn⟩ := id Y
  refine lv_ixor yx yb hd ?_
  have k2 := k Y hl ⟨zw1_to _, hs.2.2⟩ hh H locs sl h1 h2 h3
  simp only [List.map, zc, zxor, Int32.ofInt_toInt] at k2
  exact k2
theorem z_ishl {a b : Int} (hd : decode cc pc = .ok (.ishl, 1)) (k : zV own cc nL ret d Post Γ (pc + 1) ls (zI (zshl a b) :: st) h) : zV own cc nL ret d Post Γ (pc) ls (zI b :: zI a :: st) h := by
  obtain ⟨p, l, e, s, m, args, below, meth, c, D, ad, cI, cZ, cS⟩ := Γ
  intro Y hl hs hh H locs sl h1 h2 h3
  obtain ⟨yx, yb, ym, yr, yk, yo, yt, yK, yi, yn⟩ := id Y
  refine lv_ishl yx yb hd ?_
  have k2 := k Y hl ⟨zw1_to _, hs.2.2⟩ hh H locs sl h1 h2 h3
  simp only [List.map, zc, zshl, Int32.ofInt_toInt] at k2
  exact k2
theorem z_ishr {a b : Int} (hd : decode cc pc = .ok (.ishr, 1)) (k : zV own cc nL ret d Post Γ (pc + 1) ls (zI (zshr a b) :: st) h) : zV own cc nL ret d Post Γ (pc) ls (zI b :: zI a :: st) h := by
  obtain ⟨p, l, e, s, m, args, below, meth, c, D, ad, cI, cZ, cS⟩ := Γ
  intro Y hl hs hh H locs sl h1 h2 h3
  obtain ⟨yx, yb, ym, yr, yk, yo, yt, yK, yi, yn⟩ := id Y
  refine lv_ishr yx yb hd ?_
  have k2 := k Y hl ⟨zw1_to _, hs.2.2⟩ hh H locs sl h1 h2 h3
  simp only [List.map, zc, zshr, Int32.ofInt_toInt] at k2
  exact k2
theorem z_idiv {a b : Int} (hd : decode cc pc = .ok (.idiv, 1)) (hb : b ≠ 0) (k : zV own cc nL ret d Post Γ (pc + 1) ls (zI (zdiv a b) :: st) h) : zV own cc nL ret d Post Γ (pc) ls (zI b :: zI a :: st) h := by
  obtain ⟨p, l, e, s, m, args, below, meth, c, D, ad, cI, cZ, cS⟩ := Γ
  intro Y hl hs hh H locs sl h1 h2 h3
  obtain ⟨yx, yb, ym, yr, yk, yo, yt, yK, yi, yn⟩ := id Y
  refine lv_idiv yx yb hd (fun q => hb (z_ofInt_inj hs.1 zw1_0 q)) ?_
  have k2 := k Y hl ⟨zw1_to _, hs.2.2⟩ hh H locs sl h1 h2 h3
  simp only [List.map, zc, zdiv, Int32.ofInt_toInt] at k2
  exact k2
theorem z_irem {a b : Int} (hd : decode cc pc = .ok (.irem, 1)) (hb : b ≠ 0) (k : zV own cc nL ret d Post Γ (pc + 1) ls (zI (zrem a b) :: st) h) : zV own cc nL ret d Post Γ (pc) ls (zI b :: zI a :: st) h := by
  obtain ⟨p, l, e, s, m, args, below, meth, c, D, ad, cI, cZ, cS⟩ := Γ
  intro Y hl hs hh H locs sl h1 h2 h3
  obtain ⟨yx, yb, ym, yr, yk, yo, yt, yK, yi, yn⟩ := id Y
  refine lv_irem yx yb hd (fun q => hb (z_ofInt_inj hs.1 zw1_0 q)) ?_
  have k2 := k Y hl ⟨zw1_to _, hs.2.2⟩ hh H locs sl h1 h2 h3
  simp only [List.map, zc, zrem, Int32.ofInt_toInt] at k2
  exact k2
theorem z_iushr {a b : Int} (hd : decode cc pc = .ok (.iushr, 1)) (k : zV own cc nL ret d Post Γ (pc + 1) ls (zI (zushr a b) :: st) h) : zV own cc nL ret d Post Γ (pc) ls (zI b :: zI a :: st) h := by
  obtain ⟨p, l, e, s, m, args, below, meth, c, D, ad, cI, cZ, cS⟩ := Γ
  intro Y hl hs hh H locs sl h1 h2 h3
  obtain ⟨yx, yb, ym, yr, yk, yo, yt, yK, yi, yn⟩ := id Y
  refine lv_iushr yx yb hd rfl ?_
  have k2 := k Y hl ⟨zw1_to _, hs.2.2⟩ hh H locs sl h1 h2 h3
  simp only [List.map, zc, zushr, Int32.ofInt_toInt] at k2
  exact k2
theorem z_lshl {x : Int64} {b : Int} (hd : decode cc pc = .ok (.lshl, 1)) (k : zV own cc nL ret d Post Γ (pc + 1) ls (zL (zlshl x b) :: st) h) : zV own cc nL ret d Post Γ (pc) ls (zI b :: zL x :: st) h := by
  obtain ⟨p, l, e, s, m, args, below, meth, c, D, ad, cI, cZ, cS⟩ := Γ
  intro Y hl hs hh H locs sl h1 h2 h3
  obtain ⟨yx, yb, ym, yr, yk, yo, yt, yK, yi, yn⟩ := id Y
  refine lv_lshl yx yb hd rfl ?_
  exact k Y hl ⟨trivial, hs.2.2⟩ hh H locs sl h1 h2 h3
theorem z_lshr {x : Int64} {b : Int} (hd : decode cc pc = .ok (.lshr, 1)) (k : zV own cc nL ret d Post Γ (pc + 1) ls (zL (zlshr x b) :: st) h) : zV own cc nL ret d Post Γ (pc) ls (zI b :: zL x :: st) h := by
  obtain ⟨p, l, e, s, m, args, below, meth, c, D, ad, cI, cZ, cS⟩ := Γ
  intro Y hl hs hh H locs sl h1 h2 h3
  obtain ⟨yx, yb, ym, yr, yk, yo, yt, yK, yi, yn⟩ := id Y
  refine lv_lshr yx yb hd rfl ?_
  exact k Y hl ⟨trivial, hs.2.2⟩ hh H locs sl h1 h2 h3
theorem z_lor {x y : Int64} (hd : decode cc pc = .ok (.lor, 1)) (k : zV own cc nL ret d Post Γ (pc + 1) ls (zL (x ||| y) :: st) h) : zV own cc nL ret d Post Γ (pc) ls (zL y :: zL x :: st) h := by
  obtain ⟨p, l, e, s, m, args, below, meth, c, D, ad, cI, cZ, cS⟩ := Γ
  intro Y hl hs hh H locs sl h1 h2 h3
  obtain ⟨yx, yb, ym, yr, yk, yo, yt, yK, yi, yn⟩ := id Y
  refine lv_lor yx yb hd ?_
  exact k Y hl ⟨trivial, hs.2.2⟩ hh H locs sl h1 h2 h3
theorem z_land {x y : Int64} (hd : decode cc pc = .ok (.land, 1)) (k : zV own cc nL ret d Post Γ (pc + 1) ls (zL (x &&& y) :: st) h) : zV own cc nL ret d Post Γ (pc) ls (zL y :: zL x :: st) h := by
  obtain ⟨p, l, e, s, m, args, below, meth, c, D, ad, cI, cZ, cS⟩ := Γ
  intro Y hl hs hh H locs sl h1 h2 h3
  obtain ⟨yx, yb, ym, yr, yk, yo, yt, yK, yi, yn⟩ := id Y
  refine lv_land yx yb hd ?_
  exact k Y hl ⟨trivial, hs.2.2⟩ hh H locs sl h1 h2 h3
theorem z_dup {v : zA} (hd : decode cc pc = .ok (.dup, 1)) (hv : zcat v = 1) (k : zV own cc nL ret d Post Γ (pc + 1) ls (v :: v :: st) h) : zV own cc nL ret d Post Γ (pc) ls (v :: st) h := by
  obtain ⟨p, l, e, s, m, args, below, meth, c, D, ad, cI, cZ, cS⟩ := Γ
  intro Y hl hs hh H locs sl h1 h2 h3
  obtain ⟨yx, yb, ym, yr, yk, yo, yt, yK, yi, yn⟩ := id Y
  refine lv_dup yx yb hd (by rw [zc_cat]; exact hv) ?_
  exact k Y hl ⟨hs.1, hs⟩ hh H locs sl h1 h2 h3
theorem z_dup2 {v u : zA} (hd : decode cc pc = .ok (.dup2, 1)) (hv : zcat v = 1) (hu : zcat u = 1) (k : zV own cc nL ret d Post Γ (pc + 1) ls (v :: u :: v :: u :: st) h) : zV own cc nL ret d Post Γ (pc) ls (v :: u :: st) h := by
  obtain ⟨p, l, e, s, m, args, below, meth, c, D, ad, cI, cZ, cS⟩ := Γ
  intro Y hl hs hh H locs sl h1 h2 h3
  obtain ⟨yx, yb, ym, yr, yk, yo, yt, yK, yi, yn⟩ := id Y
  refine lv_dup2_11 yx yb hd (by rw [zc_cat]; exact hv) (by rw [zc_cat]; exact hu) ?_
  exact k Y hl ⟨hs.1, hs.2.1, hs⟩ hh H locs sl h1 h2 h3
theorem z_pop {v : zA} (hd : decode cc pc = .ok (.pop, 1)) (hv : zcat v = 1) (k : zV own cc nL ret d Post Γ (pc + 1) ls (st) h) : zV own cc nL ret d Post Γ (pc) ls (v :: st) h := by
  obtain ⟨p, l, e, s, m, args, below, meth, c, D, ad, cI, cZ, cS⟩ := Γ
  intro Y hl hs hh H locs sl h1 h2 h3
  obtain ⟨yx, yb, ym, yr, yk, yo, yt, yK, yi, yn⟩ := id Y
  refine lv_pop yx yb hd (by rw [zc_cat]; exact hv) ?_
  exact k Y hl hs.2 hh H locs sl h1 h2 h3
theorem z_goto {off : Int} {tgt : Nat} (hd : decode cc pc = .ok (.goto off, 3)) (ht : (pc : Int) + off = (tgt : Int)) (k : zV own cc nL ret d Post Γ (tgt) ls (st) h) : zV own cc nL ret d Post Γ (pc) ls (st) h := by
  obtain ⟨p, l, e, s, m, args, below, meth, c, D, ad, cI, cZ, cS⟩ := Γ
  intro Y hl hs hh H locs sl h1 h2 h3
  obtain ⟨yx, yb, ym, yr, yk, yo, yt, yK, yi, yn⟩ := id Y
  refine lv_goto yx yb hd ht ?_
  exact k Y hl hs hh H locs sl h1 h2 h3
theorem z_icmp_lt {a b off : Int} {tgt : Nat} (hd : decode cc pc = .ok (.if_icmp .lt off, 3)) (ht : (pc : Int) + off = (tgt : Int)) (kt : a < b → zV own cc nL ret d Post Γ (tgt) ls (st) h) (kf : ¬ (a < b) → zV own cc nL ret d Post Γ (pc + 3) ls (st) h) : zV own cc nL ret d Post Γ (pc) ls (zI b :: zI a :: st) h := by
  obtain ⟨p, l, e, s, m, args, below, meth, c, D, ad, cI, cZ, cS⟩ := Γ
  intro Y hl hs hh H locs sl h1 h2 h3
  obtain ⟨yx, yb, ym, yr, yk, yo, yt, yK, yi, yn⟩ := id Y
  exact lv_icmp_lt yx yb hd ht (fun q => kt ((z_lt hs.2.1 hs.1).mp q) Y hl hs.2.2 hh H locs sl h1 h2 h3) (fun q => kf (fun q2 => q ((z_lt hs.2.1 hs.1).mpr q2)) Y hl hs.2.2 hh H locs sl h1 h2 h3)
theorem z_if_lt {a off : Int} {tgt : Nat} (hd : decode cc pc = .ok (.ifCond .lt off, 3)) (ht : (pc : Int) + off = (tgt : Int)) (kt : a < 0 → zV own cc nL ret d Post Γ (tgt) ls (st) h) (kf : ¬ (a < 0) → zV own cc nL ret d Post Γ (pc + 3) ls (st) h) : zV own cc nL ret d Post Γ (pc) ls (zI a :: st) h := by
  obtain ⟨p, l, e, s, m, args, below, meth, c, D, ad, cI, cZ, cS⟩ := Γ
  intro Y hl hs hh H locs sl h1 h2 h3
  obtain ⟨yx, yb, ym, yr, yk, yo, yt, yK, yi, yn⟩ := id Y
  exact lv_if_lt yx yb hd ht (fun q => kt ((z_lt hs.1 zw1_0).mp q) Y hl hs.2 hh H locs sl h1 h2 h3) (fun q => kf (fun q2 => q ((z_lt hs.1 zw1_0).mpr q2)) Y hl hs.2 hh H locs sl h1 h2 h3)
theorem z_icmp_le {a b off : Int} {tgt : Nat} (hd : decode cc pc = .ok (.if_icmp .le off, 3)) (ht : (pc : Int) + off = (tgt : Int)) (kt : a ≤ b → zV own cc nL ret d Post Γ (tgt) ls (st) h) (kf : ¬ (a ≤ b) → zV own cc nL ret d Post Γ (pc + 3) ls (st) h) : zV own cc nL ret d Post Γ (pc) ls (zI b :: zI a :: st) h := by
  obtain ⟨p, l, e, s, m, args, below, meth, c, D, ad, cI, cZ, cS⟩ := Γ
  intro Y hl hs hh H locs sl h1 h2 h3
  obtain ⟨yx, yb, ym, yr, yk, yo, yt, yK, yi, yn⟩ := id Y
  exact lv_icmp_le yx yb hd ht (fun q => kt ((z_le hs.2.1 hs.1).mp q) Y hl hs.2.2 hh H locs sl h1 h2 h3) (fun q => kf (fun q2 => q ((z_le hs.2.1 hs.1).mpr q2)) Y hl hs.2.2 hh H locs sl h1 h2 h3)
theorem z_if_le {a off : Int} {tgt : Nat} (hd : decode cc pc = .ok (.ifCond .le off, 3)) (ht : (pc : Int) + off = (tgt : Int)) (kt : a ≤ 0 → zV own cc nL ret d Post Γ (tgt) ls (st) h) (kf : ¬ (a ≤ 0) → zV own cc nL ret d Post Γ (pc + 3) ls (st) h) : zV own cc nL ret d Post Γ (pc) ls (zI a :: st) h := by
  obtain ⟨p, l, e, s, m, args, below, meth, c, D, ad, cI, cZ, cS⟩ := Γ
  intro Y hl hs hh H locs sl h1 h2 h3
  obtain ⟨yx, yb, ym, yr, yk, yo, yt, yK, yi, yn⟩ := id Y
  exact lv_if_le yx yb hd ht (fun q => kt ((z_le hs.1 zw1_0).mp q) Y hl hs.2 hh H locs sl h1 h2 h3) (fun q => kf (fun q2 => q ((z_le hs.1 zw1_0).mpr q2)) Y hl hs.2 hh H locs sl h1 h2 h3)
theorem z_icmp_eq {a b off : Int} {tgt : Nat} (hd : decode cc pc = .ok (.if_icmp .eq off, 3)) (ht : (pc : Int) + off = (tgt : Int)) (kt : a = b → zV own cc nL ret d Post Γ (tgt) ls (st) h) (kf : ¬ (a = b) → zV own cc nL ret d Post Γ (pc + 3) ls (st) h) : zV own cc nL ret d Post Γ (pc) ls (zI b :: zI a :: st) h := by
  obtain ⟨p, l, e, s, m, args, below, meth, c, D, ad, cI, cZ, cS⟩ := Γ
  intro Y hl hs hh H locs sl h1 h2 h3
  obtain ⟨yx, yb, ym, yr, yk, yo, yt, yK, yi, yn⟩ := id Y
  exact lv_icmp_eq yx yb hd ht (fun q => kt ((z_eq hs.2.1 hs.1).mp q) Y hl hs.2.2 hh H locs sl h1 h2 h3) (fun q => kf (fun q2 => q ((z_eq hs.2.1 hs.1).mpr q2)) Y hl hs.2.2 hh H locs sl h1 h2 h3)
theorem z_if_eq {a off : Int} {tgt : Nat} (hd : decode cc pc = .ok (.ifCond .eq off, 3)) (ht : (pc : Int) + off = (tgt : Int)) (kt : a = 0 → zV own cc nL ret d Post Γ (tgt) ls (st) h) (kf : ¬ (a = 0) → zV own cc nL ret d Post Γ (pc + 3) ls (st) h) : zV own cc nL ret d Post Γ (pc) ls (zI a :: st) h := by
  obtain ⟨p, l, e, s, m, args, below, meth, c, D, ad, cI, cZ, cS⟩ := Γ
  intro Y hl hs hh H locs sl h1 h2 h3
  obtain ⟨yx, yb, ym, yr, yk, yo, yt, yK, yi, yn⟩ := id Y
  exact lv_if_eq yx yb hd ht (fun q => kt ((z_eq hs.1 zw1_0).mp q) Y hl hs.2 hh H locs sl h1 h2 h3) (fun q => kf (fun q2 => q ((z_eq hs.1 zw1_0).mpr q2)) Y hl hs.2 hh H locs sl h1 h2 h3)
theorem z_icmp_gt {a b off : Int} {tgt : Nat} (hd : decode cc pc = .ok (.if_icmp .gt off, 3)) (ht : (pc : Int) + off = (tgt : Int)) (kt : b < a → zV own cc nL ret d Post Γ (tgt) ls (st) h) (kf : ¬ (b < a) → zV own cc nL ret d Post Γ (pc + 3) ls (st) h) : zV own cc nL ret d Post Γ (pc) ls (zI b :: zI a :: st) h := by
  obtain ⟨p, l, e, s, m, args, below, meth, c, D, ad, cI, cZ, cS⟩ := Γ
  intro Y hl hs hh H locs sl h1 h2 h3
  obtain ⟨yx, yb, ym, yr, yk, yo, yt, yK, yi, yn⟩ := id Y
  exact lv_icmp_gt yx yb hd ht (fun q => kt ((z_lt hs.1 hs.2.1).mp q) Y hl hs.2.2 hh H locs sl h1 h2 h3) (fun q => kf (fun q2 => q ((z_lt hs.1 hs.2.1).mpr q2)) Y hl hs.2.2 hh H locs sl h1 h2 h3)
theorem z_if_gt {a off : Int} {tgt : Nat} (hd : decode cc pc = .ok (.ifCond .gt off, 3)) (ht : (pc : Int) + off = (tgt : Int)) (kt : 0 < a → zV own cc nL ret d Post Γ (tgt) ls (st) h) (kf : ¬ (0 < a) → zV own cc nL ret d Post Γ (pc + 3) ls (st) h) : zV own cc nL ret d Post Γ (pc) ls (zI a :: st) h := by
  obtain ⟨p, l, e, s, m, args, below, meth, c, D, ad, cI, cZ, cS⟩ := Γ
  intro Y hl hs hh H locs sl h1 h2 h3
  obtain ⟨yx, yb, ym, yr, yk, yo, yt, yK, yi, yn⟩ := id Y
  exact lv_if_gt yx yb hd ht (fun q => kt ((z_lt zw1_0 hs.1).mp q) Y hl hs.2 hh H locs sl h1 h2 h3) (fun q => kf (fun q2 => q ((z_lt zw1_0 hs.1).mpr q2)) Y hl hs.2 hh H locs sl h1 h2 h3)
theorem z_icmp_ge {a b off : Int} {tgt : Nat} (hd : decode cc pc = .ok (.if_icmp .ge off, 3)) (ht : (pc : Int) + off = (tgt : Int)) (kt : b ≤ a → zV own cc nL ret d Post Γ (tgt) ls (st) h) (kf : ¬ (b ≤ a) → zV own cc nL ret d Post Γ (pc + 3) ls (st) h) : zV own cc nL ret d Post Γ (pc) ls (zI b :: zI a :: st) h := by
  obtain ⟨p, l, e, s, m, args, below, meth, c, D, ad, cI, cZ, cS⟩ := Γ
  intro Y hl hs hh H locs sl h1 h2 h3
  obtain ⟨yx, yb, ym, yr, yk, yo, yt, yK, yi, yn⟩ := id Y
  exact lv_icmp_ge yx yb hd ht (fun q => kt ((z_le hs.1 hs.2.1).mp q) Y hl hs.2.2 hh H locs sl h1 h2 h3) (fun q => kf (fun q2 => q ((z_le hs.1 hs.2.1).mpr q2)) Y hl hs.2.2 hh H locs sl h1 h2 h3)
theorem z_if_ge {a off : Int} {tgt : Nat} (hd : decode cc pc = .ok (.ifCond .ge off, 3)) (ht : (pc : Int) + off = (tgt : Int)) (kt : 0 ≤ a → zV own cc nL ret d Post Γ (tgt) ls (st) h) (kf : ¬ (0 ≤ a) → zV own cc nL ret d Post Γ (pc + 3) ls (st) h) : zV own cc nL ret d Post Γ (pc) ls (zI a :: st) h := by
  obtain ⟨p, l, e, s, m, args, below, meth, c, D, ad, cI, cZ, cS⟩ := Γ
  intro Y hl hs hh H locs sl h1 h2 h3
  obtain ⟨yx, yb, ym, yr, yk, yo, yt, yK, yi, yn⟩ := id Y
  exact lv_if_ge yx yb hd ht (fun q => kt ((z_le zw1_0 hs.1).mp q) Y hl hs.2 hh H locs sl h1 h2 h3) (fun q => kf (fun q2 => q ((z_le zw1_0 hs.1).mpr q2)) Y hl hs.2 hh H locs sl h1 h2 h3)
theorem z_icmp_ne {a b off : Int} {tgt : Nat} (hd : decode cc pc = .ok (.if_icmp .ne off, 3)) (ht : (pc : Int) + off = (tgt : Int)) (kt : ¬ a = b → zV own cc nL ret d Post Γ (tgt) ls (st) h) (kf : a = b → zV own cc nL ret d Post Γ (pc + 3) ls (st) h) : zV own cc nL ret d Post Γ (pc) ls (zI b :: zI a :: st) h := by
  obtain ⟨p, l, e, s, m, args, below, meth, c, D, ad, cI, cZ, cS⟩ := Γ
  intro Y hl hs hh H locs sl h1 h2 h3
  obtain ⟨yx, yb, ym, yr, yk, yo, yt, yK, yi, yn⟩ := id Y
  exact lv_icmp_ne yx yb hd ht (fun q => kt (fun q2 => q ((z_eq hs.2.1 hs.1).mpr q2)) Y hl hs.2.2 hh H locs sl h1 h2 h3) (fun q => kf ((z_eq hs.2.1 hs.1).mp q) Y hl hs.2.2 hh H locs sl h1 h2 h3)
theorem z_if_ne {a off : Int} {tgt : Nat} (hd : decode cc pc = .ok (.ifCond .ne off, 3)) (ht : (pc : Int) + off = (tgt : Int)) (kt : ¬ a = 0 → zV own cc nL ret d Post Γ (tgt) ls (st) h) (kf : a = 0 → zV own cc nL ret d Post Γ (pc + 3) ls (st) h) : zV own cc nL ret d Post Γ (pc) ls (zI a :: st) h := by
  obtain ⟨p, l, e, s, m, args, below, meth, c, D, ad, cI, cZ, cS⟩ := Γ
  intro Y hl hs hh H locs sl h1 h2 h3
  obtain ⟨yx, yb, ym, yr, yk, yo, yt, yK, yi, yn⟩ := id Y
  exact lv_if_ne yx yb hd ht (fun q => kt (fun q2 => q ((z_eq hs.1 zw1_0).mpr q2)) Y hl hs.2 hh H locs sl h1 h2 h3) (fun q => kf ((z_eq hs.1 zw1_0).mp q) Y hl hs.2 hh H locs sl h1 h2 h3)
theorem z_tableIn {dflt lo hi : Int} {offs : Array Int} {len n : Nat} {a off : Int} {tgt : Nat} (hd : decode cc pc = .ok (.tableswitch dflt lo hi offs, len)) (ha : a = lo + (n : Int)) (h2 : lo + (n : Int) ≤ hi) (ho : offs[n]? = some off) (ht : (pc : Int) + off = (tgt : Int)) (k : zV own cc nL ret d Post Γ (tgt) ls (st) h) : zV own cc nL ret d Post Γ (pc) ls (zI a :: st) h := by
  obtain ⟨p, l, e, s, m, args, below, meth, c, D, ad, cI, cZ, cS⟩ := Γ
  intro Y hl hs hh H locs sl h1 h2_ h3
  obtain ⟨yx, yb, ym, yr, yk, yo, yt, yK, yi, yn⟩ := id Y
  have ea : (Int32.ofInt a).toInt = a := hs.1
  refine lv_tableIn yx yb hd (by rw [ea]; omega) (by rw [ea]; omega) (off := off) (by rw [ea, ha, show (lo + (n : Int) - lo).toNat = n by omega]; exact ho) ht ?_
  exact k Y hl hs.2 hh H locs sl h1 h2_ h3
theorem z_tableOut {dflt lo hi : Int} {offs : Array Int} {len : Nat} {a : Int} {tgt : Nat} (hd : decode cc pc = .ok (.tableswitch dflt lo hi offs, len)) (ha : a < lo ∨ hi < a) (ht : (pc : Int) + dflt = (tgt : Int)) (k : zV own cc nL ret d Post Γ (tgt) ls (st) h) : zV own cc nL ret d Post Γ (pc) ls (zI a :: st) h := by
  obtain ⟨p, l, e, s, m, args, below, meth, c, D, ad, cI, cZ, cS⟩ := Γ
  intro Y hl hs hh H locs sl h1 h2 h3
  obtain ⟨yx, yb, ym, yr, yk, yo, yt, yK, yi, yn⟩ := id Y
  have ea : (Int32.ofInt a).toInt = a := hs.1
  refine lv_tableOut yx yb hd (by rw [ea]; exact ha) ht ?_
  exact k Y hl hs.2 hh H locs sl h1 h2 h3
theorem z_lookup {dflt : Int} {ps : Array (Int × Int)} {len : Nat} {a off : Int} {tgt : Nat} (hd : decode cc pc = .ok (.lookupswitch dflt ps, len)) (hp : (ps.toList.zip (ps.toList.drop 1)).all (fun (a, next) => a.1 < next.1) = true) (ho : Op.lookupswitch.offset ps.toList dflt a = off) (ht : (pc : Int) + off = (tgt : Int)) (k : zV own cc nL ret d Post Γ (tgt) ls (st) h) : zV own cc nL ret d Post Γ (pc) ls (zI a :: st) h := by
  obtain ⟨p, l, e, s, m, args, below, meth, c, D, ad, cI, cZ, cS⟩ := Γ
  intro Y hl hs hh H locs sl h1 h2 h3
  obtain ⟨yx, yb, ym, yr, yk, yo, yt, yK, yi, yn⟩ := id Y
  have ea : (Int32.ofInt a).toInt = a := hs.1
  refine lv_lookup yx yb hd hp (off := off) (by rw [ea]; exact ho) ht ?_
  exact k Y hl hs.2 hh H locs sl h1 h2 h3
theorem z_ifnonnullR {x : Nat} {off : Int} {tgt : Nat} (hd : decode cc pc = .ok (.ifnonnull off, 3)) (ht : (pc : Int) + off = (tgt : Int)) (k : zV own cc nL ret d Post Γ (tgt) ls (st) h) : zV own cc nL ret d Post Γ (pc) ls (zR x :: st) h := by
  obtain ⟨p, l, e, s, m, args, below, meth, c, D, ad, cI, cZ, cS⟩ := Γ
  intro Y hl hs hh H locs sl h1 h2 h3
  obtain ⟨yx, yb, ym, yr, yk, yo, yt, yK, yi, yn⟩ := id Y
  refine lv_ifnonnull yx yb hd ht ?_
  exact k Y hl hs.2 hh H locs sl h1 h2 h3
end zrows
end
section
theorem zwH_u {h : zH} {k j : Nat} {a : Int} (hh : zwH h) (ha : zw1 a) : zwH (zu h k j a) := by
  intro k' j'
  unfold zu
  split
  · exact ha
  · exact hh _ _
theorem zwH_cp {h : zH} {ks sp kd dp n : Nat} (hh : zwH h) : zwH (zcp h ks sp kd dp n) := by
  intro k' j'
  unfold zcp
  split
  · exact hh _ _
  · exact hh _ _
theorem zwS_app {a b : List zA} : zwS (a ++ b) ↔ zwS a ∧ zwS b := by
  induction a with
  | nil => simp [zwS]
  | cons x r ih => simp [zwS, ih, and_assoc]
theorem zwS_rev {a : List zA} : zwS a.reverse ↔ zwS a := by
  induction a with
  | nil => simp
  | cons x r ih => simp [zwS, zwS_app, ih, and_comm]
theorem z_sum (ad : Nat → Nat) (st : List zA) : ((st.map (zc ad)).map fun v => v.category).sum = (st.map zcat).sum := by
  induction st with
  | nil => rfl
  | cons v r ih =>
    simp only [List.map_cons, List.sum_cons, zc_cat]
    rw [ih]
/-- a method's words -/
def zMv (M : zM) (n : Nat) : Prop := Cond.code M.1 M.2.1 M.2.2.1 M.2.2.2 ∈ zT ∧ Cond.initialized M.1.cls ∈ zT ∧ (M.1.cls ≠ "java/lang/invoke/MethodHandle" ∧ M.1.cls ≠ "java/lang/invoke/VarHandle") ∧ (parseMethodDescriptor M.1.desc).map (fun d => d.parameters.length) = some n
def zMi (M : zM) : Prop := Cond.instanceMethod M.1 ∈ zT ∧ Cond.selects M.1.cls M.1 M.1 ∈ zT
theorem z_gin {M : zM} {n : Nat} (hm : zMv M n) : GoodIn zT (zws M) := by
  intro w hw
  rcases List.mem_cons.mp hw with rfl | hw
  · exact ⟨hm.1, Or.inl rfl⟩
  · exact ⟨hw, zTg hw⟩
theorem z_blind {D : va_G} {ad : Nat → Nat} {cI cZ cS : ClassId} {as : List zA} {h : zH} : FrameBlind (zPs D ad cI cZ cS as h) := fun a U g mk q => ⟨q.1, q.2.1, q.2.2.1, q.2.2.2.1, va_K.moved (u := U) (U := U.calling g mk a) (Vm.Alike.refl U.vm) q.2.2.2.2.1, zNe.same (u := U) (U := U.calling g mk a) rfl q.2.2.2.2.2⟩
section zrows2
variable {own : String} {cc : ByteArray} {nL : Nat} {ret : Option FieldType} {d : Nat} {Post : Option zA → zH → Prop} {Γ : zCx} {pc : Nat} {ls : List (Nat × zA)} {st : List zA} {h : zH}
theorem z_iret {a : Int} (hr : ret = some .int) (hd : decode cc pc = .ok (.ireturn, 1)) (k : Post (some (zI a)) h) : zV own cc nL ret d Post Γ (pc) ls ([zI a]) h := by
  obtain ⟨p, l, e, s, m, args, below, meth, c, D, ad, cI, cZ, cS⟩ := Γ
  intro Y hl hs hh H locs sl h1 h2 h3
  obtain ⟨yx, yb, ym, yr, yk, yo, yt, yK, yi, yn⟩ := id Y
  exact W.iret (v := Int32.ofInt a) yx yb (by rw [yr, hr]) (fun t ht hW => ⟨⟨some (zI a), h, rfl, fun v hv => by cases hv; exact hs.1, hh, k, by rw [ht]; exact h2⟩, h3.F ht⟩) h3.2.2 hd
theorem z_zret {a : Int} (hr : ret = some .boolean) (ha : a = 0 ∨ a = 1) (hd : decode cc pc = .ok (.ireturn, 1)) (k : Post (some (zI a)) h) : zV own cc nL ret d Post Γ (pc) ls ([zI a]) h := by
  obtain ⟨p, l, e, s, m, args, below, meth, c, D, ad, cI, cZ, cS⟩ := Γ
  intro Y hl hs hh H locs sl h1 h2 h3
  obtain ⟨yx, yb, ym, yr, yk, yo, yt, yK, yi, yn⟩ := id Y
  exact W.zret (v := Int32.ofInt a) (ty := .boolean) yx yb (by rw [yr, hr]) (by rcases ha with rfl | rfl <;> rfl) (fun t ht hW => ⟨⟨some (zI a), h, rfl, fun v hv => by cases hv; exact hs.1, hh, k, by rw [ht]; exact h2⟩, h3.F ht⟩) h3.2.2 hd
theorem z_lret {x : Int64} (hr : ret = some .long) (hd : decode cc pc = .ok (.lreturn, 1)) (k : Post (some (zL x)) h) : zV own cc nL ret d Post Γ (pc) ls ([zL x]) h := by
  obtain ⟨p, l, e, s, m, args, below, meth, c, D, ad, cI, cZ, cS⟩ := Γ
  intro Y hl hs hh H locs sl h1 h2 h3
  obtain ⟨yx, yb, ym, yr, yk, yo, yt, yK, yi, yn⟩ := id Y
  exact W.lret (v := x) yx yb (by rw [yr, hr]) (fun t ht hW => ⟨⟨some (zL x), h, rfl, fun v hv => by cases hv; exact hs.1, hh, k, by rw [ht]; exact h2⟩, h3.F ht⟩) h3.2.2 hd
theorem z_vret (hr : ret = none) (hd : decode cc pc = .ok (.return_, 1)) (k : Post none h) : zV own cc nL ret d Post Γ (pc) ls ([]) h := by
  obtain ⟨p, l, e, s, m, args, below, meth, c, D, ad, cI, cZ, cS⟩ := Γ
  intro Y hl hs hh H locs sl h1 h2 h3
  obtain ⟨yx, yb, ym, yr, yk, yo, yt, yK, yi, yn⟩ := id Y
  exact W.vret yx yb (by rw [yr, hr]) (fun t ht hW => ⟨⟨none, h, rfl, (fun v hv => by cases hv), hh, k, by rw [ht]; exact h2⟩, h3.F ht⟩) h3.2.2 hd
theorem z_aret {x : Option Nat} {C : String} (hr : ret = some (.object C)) (hd : decode cc pc = .ok (.areturn, 1)) (k : Post (some (.inr (.inr x))) h) : zV own cc nL ret d Post Γ (pc) ls ([.inr (.inr x)]) h := by
  obtain ⟨p, l, e, s, m, args, below, meth, c, D, ad, cI, cZ, cS⟩ := Γ
  intro Y hl hs hh H locs sl h1 h2 h3
  obtain ⟨yx, yb, ym, yr, yk, yo, yt, yK, yi, yn⟩ := id Y
  exact W.aret (v := zc ad (.inr (.inr x))) (rt := .object C) yx yb (by rw [yr, hr]) (Or.inl ⟨_, rfl⟩) (by rcases x with _ | k; exact Or.inl rfl; exact Or.inr ⟨_, rfl⟩) (fun t ht hW => ⟨⟨some (.inr (.inr x)), h, rfl, fun v hv => by cases hv; exact hs.1, hh, k, by rw [ht]; exact h2⟩, h3.F ht⟩) h3.2.2 hd
theorem z_getI {ci N ix i q : Nat} {C ref : String} {T : u_T} {fs : (Nat → Nat) → (Nat → Int32) → List Value} (ho : zObj q ci fs) (hc : vwCl[ci]? = some (C, T, N)) (hin : ∀ w ∈ u_ws C T N, w ∈ zT) (hi : i < N) (hw : Cond.fieldLink own ix ref (T i).2.1 (T i).2.2.1 ∈ zT) (href : (T i).1 = ref) (hv : ∀ ad r, (fs ad r)[i]? = some (.int (r i))) (hd : decode cc pc = .ok (.getfield ix, 3)) (k : zV own cc nL ret d Post Γ (pc + 3) ls (zI (h q i) :: st) h) : zV own cc nL ret d Post Γ (pc) ls (zR q :: st) h := by
  obtain ⟨p, l, e, s, m, args, below, meth, c, D, ad, cI, cZ, cS⟩ := Γ
  intro Y hl hs hh H locs sl h1 h2 h3
  obtain ⟨yx, yb, ym, yr, yk, yo, yt, yK, yi, yn⟩ := id Y
  have he : (zW ad cI cZ cS h)[q]? = some (ad q, .inr (ci, fs ad (fun j => Int32.ofInt (h q j)))) := by rw [zW_get ho.1, ho.2]
  refine va_get (D := D) (v := .int (Int32.ofInt (h q i))) yx yb yt hin yo yK h2 q he hc i hi (yt _ hw) (fun x hx => href ▸ hx) (hv _ _) hd ?_
  exact k Y hl ⟨hh _ _, hs.2⟩ hh H locs sl h1 h2 h3
theorem z_getR {q2 : Nat} {ci N ix i q : Nat} {C ref : String} {T : u_T} {fs : (Nat → Nat) → (Nat → Int32) → List Value} (ho : zObj q ci fs) (hc : vwCl[ci]? = some (C, T, N)) (hin : ∀ w ∈ u_ws C T N, w ∈ zT) (hi : i < N) (hw : Cond.fieldLink own ix ref (T i).2.1 (T i).2.2.1 ∈ zT) (href : (T i).1 = ref) (hv : ∀ ad r, (fs ad r)[i]? = some (.ref (ad q2))) (hd : decode cc pc = .ok (.getfield ix, 3)) (k : zV own cc nL ret d Post Γ (pc + 3) ls (zR q2 :: st) h) : zV own cc nL ret d Post Γ (pc) ls (zR q :: st) h := by
  obtain ⟨p, l, e, s, m, args, below, meth, c, D, ad, cI, cZ, cS⟩ := Γ
  intro Y hl hs hh H locs sl h1 h2 h3
  obtain ⟨yx, yb, ym, yr, yk, yo, yt, yK, yi, yn⟩ := id Y
  have he : (zW ad cI cZ cS h)[q]? = some (ad q, .inr (ci, fs ad (fun j => Int32.ofInt (h q j)))) := by rw [zW_get ho.1, ho.2]
  refine va_get (D := D) (v := .ref (ad q2)) yx yb yt hin yo yK h2 q he hc i hi (yt _ hw) (fun x hx => href ▸ hx) (hv _ _) hd ?_
  exact k Y hl ⟨trivial, hs.2⟩ hh H locs sl h1 h2 h3
theorem z_putI {ci N ix i q : Nat} {C ref : String} {T : u_T} {fs : (Nat → Nat) → (Nat → Int32) → List Value} (ho : zObj q ci fs) (hc : vwCl[ci]? = some (C, T, N)) (hin : ∀ w ∈ u_ws C T N, w ∈ zT) (hi : i < N) (hw : Cond.fieldLink own ix ref (T i).2.1 (T i).2.2.1 ∈ zT) (href : (T i).1 = ref) (ty0 : Nat → FieldType) (hty0 : ∀ k, k < N → parseFieldDescriptor (T k).2.2.1 = some (ty0 k)) (hnm : ∀ a, a < N → ∀ b, b < N → a ≠ b → (T a).2.1 ≠ (T b).2.1) (hfin : (T i).2.2.2 = false) (hlen : ∀ ad r, i < (fs ad r).length) (hset : ∀ ad r v, (fs ad r).set i (.int v) = fs ad (fun j => if j = i then v else r j)) {a : Int} (hty : parseFieldDescriptor (T i).2.2.1 = some .int) (hd : decode cc pc = .ok (.putfield ix, 3)) (k : zV own cc nL ret d Post Γ (pc + 3) ls (st) (zu h q i a)) : zV own cc nL ret d Post Γ (pc) ls (zI a :: zR q :: st) h := by
  obtain ⟨p, l, e, s, m, args, below, meth, c, D, ad, cI, cZ, cS⟩ := Γ
  intro Y hl hs hh H locs sl h1 h2 h3
  obtain ⟨yx, yb, ym, yr, yk, yo, yt, yK, yi, yn⟩ := id Y
  have he : (zW ad cI cZ cS h)[q]? = some (ad q, .inr (ci, fs ad (fun j => Int32.ofInt (h q j)))) := by rw [zW_get ho.1, ho.2]
  refine va_put (D := D) (A := zAd ad) (v := .int (Int32.ofInt a)) (ty := .int) yx yb yt hin ty0 hty0 hnm yo yK h2 (zW_D yi) h3 q he hc i hi (yt _ hw) (fun x hx => href ▸ hx) hfin hty rfl rfl (hlen _ _) hd (fun H1 locs1 hP _ hS => ?_)
  rw [hset, zW_set (h' := zu h q i a) ho.1 (fun k' hk j => by unfold zu; rw [if_neg (fun z => hk z.1)]) ?_] at hP
  · exact k Y hl hs.2.2 (zwH_u hh hs.1) H1 locs1 sl h1 hP hS
  · rw [ho.2]
    congr 2
    congr 1
    funext j
    unfold zu
    by_cases hj : j = i
    · rw [if_pos hj, if_pos ⟨rfl, hj⟩]
    · rw [if_neg hj, if_neg (fun z => hj z.2)]
theorem z_putZ {ci N ix i q : Nat} {C ref : String} {T : u_T} {fs : (Nat → Nat) → (Nat → Int32) → List Value} (ho : zObj q ci fs) (hc : vwCl[ci]? = some (C, T, N)) (hin : ∀ w ∈ u_ws C T N, w ∈ zT) (hi : i < N) (hw : Cond.fieldLink own ix ref (T i).2.1 (T i).2.2.1 ∈ zT) (href : (T i).1 = ref) (ty0 : Nat → FieldType) (hty0 : ∀ k, k < N → parseFieldDescriptor (T k).2.2.1 = some (ty0 k)) (hnm : ∀ a, a < N → ∀ b, b < N → a ≠ b → (T a).2.1 ≠ (T b).2.1) (hfin : (T i).2.2.2 = false) (hlen : ∀ ad r, i < (fs ad r).length) (hset : ∀ ad r v, (fs ad r).set i (.int v) = fs ad (fun j => if j = i then v else r j)) {a : Int} (ha : a = 0 ∨ a = 1) (hty : parseFieldDescriptor (T i).2.2.1 = some .boolean) (hd : decode cc pc = .ok (.putfield ix, 3)) (k : zV own cc nL ret d Post Γ (pc + 3) ls (st) (zu h q i a)) : zV own cc nL ret d Post Γ (pc) ls (zI a :: zR q :: st) h := by
  obtain ⟨p, l, e, s, m, args, below, meth, c, D, ad, cI, cZ, cS⟩ := Γ
  intro Y hl hs hh H locs sl h1 h2 h3
  obtain ⟨yx, yb, ym, yr, yk, yo, yt, yK, yi, yn⟩ := id Y
  have he : (zW ad cI cZ cS h)[q]? = some (ad q, .inr (ci, fs ad (fun j => Int32.ofInt (h q j)))) := by rw [zW_get ho.1, ho.2]
  refine va_put (D := D) (A := zAd ad) (v := .int (Int32.ofInt a)) (ty := .boolean) yx yb yt hin ty0 hty0 hnm yo yK h2 (zW_D yi) h3 q he hc i hi (yt _ hw) (fun x hx => href ▸ hx) hfin hty (by rcases ha with rfl | rfl <;> rfl) (by rcases ha with rfl | rfl <;> rfl) (hlen _ _) hd (fun H1 locs1 hP _ hS => ?_)
  rw [hset, zW_set (h' := zu h q i a) ho.1 (fun k' hk j => by unfold zu; rw [if_neg (fun z => hk z.1)]) ?_] at hP
  · exact k Y hl hs.2.2 (zwH_u hh hs.1) H1 locs1 sl h1 hP hS
  · rw [ho.2]
    congr 2
    congr 1
    funext j
    unfold zu
    by_cases hj : j = i
    · rw [if_pos hj, if_pos ⟨rfl, hj⟩]
    · rw [if_neg hj, if_neg (fun z => hj z.2)]
theorem z_iald {q n : Nat} {a : Int} (ha : zArI q n) (b0 : 0 ≤ a) (b1 : a < (n : Int)) (hd : decode cc pc = .ok (.iaload, 1)) (k : zV own cc nL ret d Post Γ (pc + 1) ls (zI (h q a.toNat) :: st) h) : zV own cc nL ret d Post Γ (pc) ls (zI a :: zR q :: st) h := by
  obtain ⟨p, l, e, s, m, args, below, meth, c, D, ad, cI, cZ, cS⟩ := Γ
  intro Y hl hs hh H locs sl h1 h2 h3
  obtain ⟨yx, yb, ym, yr, yk, yo, yt, yK, yi, yn⟩ := id Y
  have he : (zW ad cI cZ cS h)[q]? = some (ad q, .inl (cI, n, .inl (fun j => Int32.ofInt (h q j)))) := by rw [zW_get ha.1, ha.2.2]
  refine va_iald (D := D) yx yb yK h2 q 0 he rfl (z_in hs.1 b0 b1) hd ?_
  rw [z_cl hs.1]
  exact k Y hl ⟨hh _ _, hs.2.2⟩ hh H locs sl h1 h2 h3
theorem z_iast {q n : Nat} {a x : Int} (ha : zArI q n) (b0 : 0 ≤ a) (b1 : a < (n : Int)) (hd : decode cc pc = .ok (.iastore, 1)) (k : zV own cc nL ret d Post Γ (pc + 1) ls (st) (zu h q a.toNat x)) : zV own cc nL ret d Post Γ (pc) ls (zI x :: zI a :: zR q :: st) h := by
  obtain ⟨p, l, e, s, m, args, below, meth, c, D, ad, cI, cZ, cS⟩ := Γ
  intro Y hl hs hh H locs sl h1 h2 h3
  obtain ⟨yx, yb, ym, yr, yk, yo, yt, yK, yi, yn⟩ := id Y
  have he : (zW ad cI cZ cS h)[q]? = some (ad q, .inl (cI, n, .inl (fun j => Int32.ofInt (h q j)))) := by rw [zW_get ha.1, ha.2.2]
  refine va_iast (D := D) (A := zAd ad) yx yb yK h2 (zW_D yi) h3 q 0 he rfl (z_in hs.2.1 b0 b1) hd (fun H1 locs1 hP _ hS => ?_)
  rw [zW_set (h' := zu h q a.toNat x) ha.1 (fun k' hk j => by unfold zu; rw [if_neg (fun z => hk z.1)]) ?_] at hP
  · exact k Y hl hs.2.2.2 (zwH_u hh hs.1) H1 locs1 sl h1 hP hS
  · rw [ha.2.2, z_cl hs.2.1]
    refine congrArg (fun f => (Sum.inl (cI, n, Sum.inl f) : va_E)) (funext fun j => ?_)
    show _ = upd (fun j => Int32.ofInt (h q j)) a.toNat (Int32.ofInt x) j
    unfold zu upd
    by_cases hj : j = a.toNat
    · rw [if_pos hj, if_pos ⟨rfl, hj⟩]
    · rw [if_neg hj, if_neg (fun z => hj z.2)]
theorem z_zald {q n : Nat} {a : Int} (ha : zArZ q n) (b0 : 0 ≤ a) (b1 : a < (n : Int)) (hd : decode cc pc = .ok (.baload, 1)) (k : zV own cc nL ret d Post Γ (pc + 1) ls (zI (h q a.toNat) :: st) h) : zV own cc nL ret d Post Γ (pc) ls (zI a :: zR q :: st) h := by
  obtain ⟨p, l, e, s, m, args, below, meth, c, D, ad, cI, cZ, cS⟩ := Γ
  intro Y hl hs hh H locs sl h1 h2 h3
  obtain ⟨yx, yb, ym, yr, yk, yo, yt, yK, yi, yn⟩ := id Y
  have he : (zW ad cI cZ cS h)[q]? = some (ad q, .inl (cZ, n, .inl (fun j => Int32.ofInt (h q j)))) := by rw [zW_get ha.1, ha.2.2]
  refine va_zald (D := D) yx yb yK h2 q 1 he rfl (z_in hs.1 b0 b1) hd ?_
  rw [z_cl hs.1]
  exact k Y hl ⟨hh _ _, hs.2.2⟩ hh H locs sl h1 h2 h3
theorem z_zast {q n : Nat} {a x : Int} (ha : zArZ q n) (b0 : 0 ≤ a) (b1 : a < (n : Int)) (hx : x = 0 ∨ x = 1) (hd : decode cc pc = .ok (.bastore, 1)) (k : zV own cc nL ret d Post Γ (pc + 1) ls (st) (zu h q a.toNat x)) : zV own cc nL ret d Post Γ (pc) ls (zI x :: zI a :: zR q :: st) h := by
  obtain ⟨p, l, e, s, m, args, below, meth, c, D, ad, cI, cZ, cS⟩ := Γ
  intro Y hl hs hh H locs sl h1 h2 h3
  obtain ⟨yx, yb, ym, yr, yk, yo, yt, yK, yi, yn⟩ := id Y
  have he : (zW ad cI cZ cS h)[q]? = some (ad q, .inl (cZ, n, .inl (fun j => Int32.ofInt (h q j)))) := by rw [zW_get ha.1, ha.2.2]
  refine va_zast (D := D) (A := zAd ad) yx yb yK h2 (zW_D yi) h3 q 1 he rfl (z_in hs.2.1 b0 b1) hd (fun H1 locs1 hP _ hS => ?_)
  have hx2 : vp_nar .boolean (Int32.ofInt x) = Int32.ofInt x := by rcases hx with rfl | rfl <;> rfl
  rw [hx2] at hP
  rw [zW_set (h' := zu h q a.toNat x) ha.1 (fun k' hk j => by unfold zu; rw [if_neg (fun z => hk z.1)]) ?_] at hP
  · exact k Y hl hs.2.2.2 (zwH_u hh hs.1) H1 locs1 sl h1 hP hS
  · rw [ha.2.2, z_cl hs.2.1]
    refine congrArg (fun f => (Sum.inl (cZ, n, Sum.inl f) : va_E)) (funext fun j => ?_)
    show _ = upd (fun j => Int32.ofInt (h q j)) a.toNat (Int32.ofInt x) j
    unfold zu upd
    by_cases hj : j = a.toNat
    · rw [if_pos hj, if_pos ⟨rfl, hj⟩]
    · rw [if_neg hj, if_neg (fun z => hj z.2)]
theorem z_aald {a : Int} (b0 : 0 ≤ a) (b1 : a < 5) (hd : decode cc pc = .ok (.aaload, 1)) (k : zV own cc nL ret d Post Γ (pc + 1) ls (zR (48 + 15 * a.toNat) :: st) h) : zV own cc nL ret d Post Γ (pc) ls (zI a :: zR 47 :: st) h := by
  obtain ⟨p, l, e, s, m, args, below, meth, c, D, ad, cI, cZ, cS⟩ := Γ
  intro Y hl hs hh H locs sl h1 h2 h3
  obtain ⟨yx, yb, ym, yr, yk, yo, yt, yK, yi, yn⟩ := id Y
  have he : (zW ad cI cZ cS h)[47]? = some (ad 47, .inl (cS, 5, .inr (.inr (.inr (.inr (fun j => some (ad (48 + 15 * j)))))))) := by rw [zW_get (by decide)]; rfl
  refine va_aldq (D := D) yx yb yK h2 47 2 he rfl (z_in (n := 5) hs.1 b0 b1) hd ?_
  rw [z_cl hs.1]
  exact k Y hl ⟨trivial, hs.2.2⟩ hh H locs sl h1 h2 h3
theorem z_alen {q n : Nat} (ha : zArI q n) (hd : decode cc pc = .ok (.arraylength, 1)) (k : zV own cc nL ret d Post Γ (pc + 1) ls (zI (n : Int) :: st) h) : zV own cc nL ret d Post Γ (pc) ls (zR q :: st) h := by
  obtain ⟨p, l, e, s, m, args, below, meth, c, D, ad, cI, cZ, cS⟩ := Γ
  intro Y hl hs hh H locs sl h1 h2 h3
  obtain ⟨yx, yb, ym, yr, yk, yo, yt, yK, yi, yn⟩ := id Y
  have he : (zW ad cI cZ cS h)[q]? = some (ad q, .inl (cI, n, .inl (fun j => Int32.ofInt (h q j)))) := by rw [zW_get ha.1, ha.2.2]
  have hn := ha.2.1
  refine va_alen (D := D) (ty := .int) yx yb yK h2 q 0 he rfl (v := Int32.ofInt (n : Int)) (by show Int32.ofNat n = _; rw [← Int32.ofInt_eq_ofNat]) hd ?_
  exact k Y hl ⟨zw1_of (by omega) (by omega), hs.2⟩ hh H locs sl h1 h2 h3
theorem z_copy {ix qs qd ns nd : Nat} {sp dp n : Int} (hs_ : zArI qs ns) (hd_ : zArI qd nd) (hw : Cond.methodLink own ix arraycopyName ∈ zT) (hwn : Cond.native arraycopyName ∈ zT) (hws : Cond.static arraycopyName ∈ zT) (hwi : Cond.initialized "java/lang/System" ∈ zT) (b0 : 0 ≤ sp) (b1 : 0 ≤ dp) (b2 : 0 ≤ n) (b3 : sp + n ≤ ns) (b4 : dp + n ≤ nd) (hd1 : 1 ≤ d) (hst : (st.map zcat).sum ≤ 8) (hd : decode cc pc = .ok (.invokestatic ix, 3)) (k : zV own cc nL ret d Post Γ (pc + 3) ls (st) (zcp h qs sp.toNat qd dp.toNat n.toNat)) : zV own cc nL ret d Post Γ (pc) ls (zI n :: zI dp :: zR qd :: zI sp :: zR qs :: st) h := by
  obtain ⟨p, l, e, s, m, args, below, meth, c, D, ad, cI, cZ, cS⟩ := Γ
  intro Y hl hs hh H locs sl h1 h2 h3
  obtain ⟨yx, yb, ym, yr, yk, yo, yt, yK, yi, yn⟩ := id Y
  have hes : (zW ad cI cZ cS h)[qs]? = some (ad qs, .inl (cI, ns, .inl (fun j => Int32.ofInt (h qs j)))) := by rw [zW_get hs_.1, hs_.2.2]
  have hed : (zW ad cI cZ cS h)[qd]? = some (ad qd, .inl (cI, nd, .inl (fun j => Int32.ofInt (h qd j)))) := by rw [zW_get hd_.1, hd_.2.2]
  have wn := hs.1
  have wd := hs.2.1
  have ws := hs.2.2.2.1
  have wr := hs.2.2.2.2.2
  refine va_copyi (D := D) (A := zAd ad) (ty := .int) yx yb (by rw [ym]; exact h1.1.symm) yo (yt _ hw) (yt _ hwn) (yt _ hws) (yt _ hwi) yK h2 (zW_D yi) h3 qs qd 0 0 hes hed rfl rfl rfl
    (by rw [← z_0, z_lt ws zw1_0]; omega) (by rw [← z_0, z_lt wd zw1_0]; omega) (by rw [← z_0, z_lt wn zw1_0]; omega) (by rw [z_cl ws, z_cl wn]; omega) (by rw [z_cl wd, z_cl wn]; omega) (fun _ _ => rfl) hd1 (by rw [z_sum]; show _ + (7 + 11) ≤ 60 * d; omega) hd (fun H1 locs1 hP _ hS => ?_)
  rw [z_cl ws, z_cl wd, z_cl wn] at hP
  rw [zW_set (h' := zcp h qs sp.toNat qd dp.toNat n.toNat) hd_.1 (fun k' hk j => by unfold zcp; rw [if_neg (fun z => hk z.1)]) ?_] at hP
  · exact k Y hl wr (zwH_cp hh) H1 locs1 sl h1 hP hS
  · rw [hd_.2.2]
    refine congrArg (fun f => (Sum.inl (cI, nd, Sum.inl f) : va_E)) (funext fun j => ?_)
    unfold zcp va_cpy
    by_cases hj : dp.toNat ≤ j ∧ j < dp.toNat + n.toNat
    · rw [if_pos hj, if_pos ⟨rfl, hj⟩]
    · rw [if_neg hj, if_neg (fun z => hj z.2)]
theorem z_callV {M : zM} {n ix d2 : Nat} {as full : List zA} {Post2 : Option zA → zH → Prop} {q ci N : Nat} {T : u_T} {fs : (Nat → Nat) → (Nat → Int32) → List Value} (hM : zSp d2 M (zR q :: as) h Post2) (ho : zObj q ci fs) (hc : vwCl[ci]? = some (M.1.cls, T, N)) (hmi : zMi M) (hm : zMv M n) (hd2 : d2 + 1 ≤ d ∧ M.2.2.1 ≤ 41) (hw : Cond.methodLink own ix M.1 ∈ zT) (hd : decode cc pc = .ok (.invokevirtual ix, 3)) (hn : as.length = n) (hst : (st.map zcat).sum ≤ 8) (hf : as.reverse ++ zR q :: st = full) (kk : ∀ r h', Post2 r h' → zV own cc nL ret d Post Γ (pc + 3) ls (r.toList ++ st) h') : zV own cc nL ret d Post Γ (pc) ls (full) h := by
  obtain ⟨p, l, e, s, m, args, below, meth, c, D, ad, cI, cZ, cS⟩ := Γ
  intro Y hl hs hh H locs sl h1 h2 h3
  obtain ⟨yx, yb, ym, yr, yk, yo, yt, yK, yi, yn⟩ := id Y
  subst hf
  have hwa : zwS as := zwS_rev.mp (zwS_app.mp hs).1
  have hwst : zwS st := (zwS_app.mp hs).2.2
  have he : (zW ad cI cZ cS h)[q]? = some (ad q, .inr (ci, fs ad (fun j => Int32.ofInt (h q j)))) := by rw [zW_get ho.1, ho.2]
  have hcb := callB_of (R := zRm d) (s := s) (args := args) (Ts := zT) (ws := zws M) (own := own) (index := ix) (y := M.1) (bytes := M.2.1) (maxL := M.2.2.1) (ret := M.2.2.2) (rm := zRm d2) (mc := 0) (ms := 0) n yt (z_gin hm) rfl rfl rfl (yt _ hm.2.1) (yt _ hw) ⟨hm.2.2.1.1, hm.2.2.1.2, hm.2.2.2⟩ ⟨hd2.1, by have := hd2.1; have := hd2.2; show 8 + (M.2.2.1 + 11) + 60 * d2 ≤ 60 * d; omega⟩
  have hr := va_runV (As := as.map (zc ad)) (rest := st.map (zc ad)) (b := ad q) (C := M.1.cls) (g := F0 m pc sl ((as.reverse ++ zR q :: st).map (zc ad))) ⟨yx, yb, ym, yo, yt⟩ (hM l D ad cI cZ cS yi) ⟨hcb, yt _ hmi.1, yt _ hmi.2⟩ ⟨z_blind, va_recv yK h2 hc he, fun U hU hW => ⟨rfl, ⟨trivial, hwa⟩, hh, by rw [hU]; exact h2, va_K.moved hW.alike yK, yn.warm hW⟩⟩ rfl (by rw [List.length_map]; exact hn) h1.1 (by simp [zc]) (lv_room (rest := st.map (zc ad)) (m := m) (pc := pc) (ls := sl) (by rw [z_sum]; exact hst)) hd ⟨Nat.le_refl _, Nat.le_refl _⟩ (cells := 0) (slots := 0) (locs := locs) (p := p) (e := e) (R := zRm d) (below := below) (meth := meth)
  intro T hT X
  obtain ⟨v, st₀, t, T', L, h0, X', hL, e1, e2, ⟨⟨r, h', hv, hvw, hwh', hpost, hP'⟩, hz, hk⟩, st'⟩ := hr T hT X
  cases hv
  rw [h0] at hz hk
  have hS1 : va_S (zAd ad) s.heap T'.heap (locs ++ L) := ⟨Nat.le_trans h3.1 (by rw [e1]; exact hz), fun q z1 z2 => by rw [e1, hk q (Nat.lt_of_lt_of_le z1 h3.1) z2]; exact h3.2.1 q z1 z2, fun q hq => by
    rcases List.mem_append.mp hq with z | z
    · exact h3.2.2 q z
    · exact hL q z⟩
  have hP1 : va_P D vwCl (zW ad cI cZ cS h') T'.heap := by rw [e1]; exact hP'
  obtain ⟨t2, a1, b1⟩ := kk r h' hpost Y hl (by rcases r with _ | v; exact hwst; exact ⟨hvw v rfl, hwst⟩) hwh' T'.heap (locs ++ L) sl h1 hP1 hS1 T' rfl X'
  have es : (r.map (zc ad)).toList ++ st.map (zc ad) = (r.toList ++ st).map (zc ad) := by cases r <;> rfl
  rw [es] at st'
  exact ⟨t2, st' t2 a1, b1⟩
theorem z_callS {M : zM} {n ix d2 : Nat} {as full : List zA} {Post2 : Option zA → zH → Prop} (hM : zSp d2 M as h Post2) (hms : Cond.static M.1 ∈ zT) (hm : zMv M n) (hd2 : d2 + 1 ≤ d ∧ M.2.2.1 ≤ 41) (hw : Cond.methodLink own ix M.1 ∈ zT) (hd : decode cc pc = .ok (.invokestatic ix, 3)) (hn : as.length = n) (hst : (st.map zcat).sum ≤ 8) (hf : as.reverse ++ st = full) (kk : ∀ r h', Post2 r h' → zV own cc nL ret d Post Γ (pc + 3) ls (r.toList ++ st) h') : zV own cc nL ret d Post Γ (pc) ls (full) h := by
  obtain ⟨p, l, e, s, m, args, below, meth, c, D, ad, cI, cZ, cS⟩ := Γ
  intro Y hl hs hh H locs sl h1 h2 h3
  obtain ⟨yx, yb, ym, yr, yk, yo, yt, yK, yi, yn⟩ := id Y
  subst hf
  have hwa : zwS as := zwS_rev.mp (zwS_app.mp hs).1
  have hwst : zwS st := (zwS_app.mp hs).2
  have hcb := callB_of (R := zRm d) (s := s) (args := args) (Ts := zT) (ws := zws M) (own := own) (index := ix) (y := M.1) (bytes := M.2.1) (maxL := M.2.2.1) (ret := M.2.2.2) (rm := zRm d2) (mc := 0) (ms := 0) n yt (z_gin hm) rfl rfl rfl (yt _ hm.2.1) (yt _ hw) ⟨hm.2.2.1.1, hm.2.2.1.2, hm.2.2.2⟩ ⟨hd2.1, by have := hd2.1; have := hd2.2; show 8 + (M.2.2.1 + 11) + 60 * d2 ≤ 60 * d; omega⟩
  have hr := va_runS (As := as.map (zc ad)) (rest := st.map (zc ad)) (g := F0 m pc sl ((as.reverse ++ st).map (zc ad))) ⟨yx, yb, ym, yo, yt⟩ (hM l D ad cI cZ cS yi) ⟨hcb, yt _ hms⟩ ⟨z_blind, fun U hU hW => ⟨rfl, hwa, hh, by rw [hU]; exact h2, va_K.moved hW.alike yK, yn.warm hW⟩⟩ rfl (by rw [List.length_map]; exact hn) h1.1 (by simp) (lv_room (rest := st.map (zc ad)) (m := m) (pc := pc) (ls := sl) (by rw [z_sum]; exact hst)) hd ⟨Nat.le_refl _, Nat.le_refl _⟩ (cells := 0) (slots := 0) (locs := locs) (p := p) (e := e) (R := zRm d) (below := below) (meth := meth)
  intro T hT X
  obtain ⟨v, st₀, t, T', L, h0, X', hL, e1, e2, ⟨⟨r, h', hv, hvw, hwh', hpost, hP'⟩, hz, hk⟩, st'⟩ := hr T hT X
  cases hv
  rw [h0] at hz hk
  have hS1 : va_S (zAd ad) s.heap T'.heap (locs ++ L) := ⟨Nat.le_trans h3.1 (by rw [e1]; exact hz), fun q z1 z2 => by rw [e1, hk q (Nat.lt_of_lt_of_le z1 h3.1) z2]; exact h3.2.1 q z1 z2, fun q hq => by
    rcases List.mem_append.mp hq with z | z
    · exact h3.2.2 q z
    · exact hL q z⟩
  have hP1 : va_P D vwCl (zW ad cI cZ cS h') T'.heap := by rw [e1]; exact hP'
  obtain ⟨t2, a1, b1⟩ := kk r h' hpost Y hl (by rcases r with _ | v; exact hwst; exact ⟨hvw v rfl, hwst⟩) hwh' T'.heap (locs ++ L) sl h1 hP1 hS1 T' rfl X'
  have es : (r.map (zc ad)).toList ++ st.map (zc ad) = (r.toList ++ st).map (zc ad) := by cases r <;> rfl
  rw [es] at st'
  exact ⟨t2, st' t2 a1, b1⟩
theorem z_callN {M : zM} {n ix d2 : Nat} {as full : List zA} {Post2 : Option zA → zH → Prop} {host : String} (hM : zSp d2 M as h Post2) (hms : Cond.static M.1 ∈ zT) (hm : zMv M n) (hd2 : d2 + 1 ≤ d ∧ M.2.2.1 ≤ 41) (hw : ∀ U, zNe U → va_Nw (.methodLinkNest own ix M.1 host) U) (hd : decode cc pc = .ok (.invokestatic ix, 3)) (hn : as.length = n) (hst : (st.map zcat).sum ≤ 8) (hf : as.reverse ++ st = full) (kk : ∀ r h', Post2 r h' → zV own cc nL ret d Post Γ (pc + 3) ls (r.toList ++ st) h') : zV own cc nL ret d Post Γ (pc) ls (full) h := by
  obtain ⟨p, l, e, s, m, args, below, meth, c, D, ad, cI, cZ, cS⟩ := Γ
  intro Y hl hs hh H locs sl h1 h2 h3
  obtain ⟨yx, yb, ym, yr, yk, yo, yt, yK, yi, yn⟩ := id Y
  subst hf
  have hwa : zwS as := zwS_rev.mp (zwS_app.mp hs).1
  have hwst : zwS st := (zwS_app.mp hs).2
  have hcb := va_cnB (R := zRm d) (s := s) (args := args) (Ts := zT) (ws := zws M) (own := own) (host := host) (index := ix) (y := M.1) (bytes := M.2.1) (maxL := M.2.2.1) (ret := M.2.2.2) (rm := zRm d2) (mc := 0) (ms := 0) n yt (z_gin hm) rfl rfl rfl (hw _ yn) (yt _ hm.2.1) ⟨hm.2.2.1.1, hm.2.2.1.2, hm.2.2.2⟩ ⟨hd2.1, by have := hd2.1; have := hd2.2; show 8 + (M.2.2.1 + 11) + 60 * d2 ≤ 60 * d; omega⟩
  have hr := va_runSN (As := as.map (zc ad)) (rest := st.map (zc ad)) (g := F0 m pc sl ((as.reverse ++ st).map (zc ad))) ⟨yx, yb, ym, yo, yt⟩ (hM l D ad cI cZ cS yi) ⟨hcb, yt _ hms, trivial⟩ ⟨z_blind, fun U hU hW => ⟨rfl, hwa, hh, by rw [hU]; exact h2, va_K.moved hW.alike yK, yn.warm hW⟩⟩ rfl (by rw [List.length_map]; exact hn) h1.1 (by simp) (lv_room (rest := st.map (zc ad)) (m := m) (pc := pc) (ls := sl) (by rw [z_sum]; exact hst)) hd ⟨Nat.le_refl _, Nat.le_refl _⟩ (cells := 0) (slots := 0) (locs := locs) (p := p) (e := e) (R := zRm d) (below := below) (meth := meth)
  intro T hT X
  obtain ⟨v, st₀, t, T', L, h0, X', hL, e1, e2, ⟨⟨r, h', hv, hvw, hwh', hpost, hP'⟩, hz, hk⟩, st'⟩ := hr T hT X
  cases hv
  rw [h0] at hz hk
  have hS1 : va_S (zAd ad) s.heap T'.heap (locs ++ L) := ⟨Nat.le_trans h3.1 (by rw [e1]; exact hz), fun q z1 z2 => by rw [e1, hk q (Nat.lt_of_lt_of_le z1 h3.1) z2]; exact h3.2.1 q z1 z2, fun q hq => by
    rcases List.mem_append.mp hq with z | z
    · exact h3.2.2 q z
    · exact hL q z⟩
  have hP1 : va_P D vwCl (zW ad cI cZ cS h') T'.heap := by rw [e1]; exact hP'
  obtain ⟨t2, a1, b1⟩ := kk r h' hpost Y hl (by rcases r with _ | v; exact hwst; exact ⟨hvw v rfl, hwst⟩) hwh' T'.heap (locs ++ L) sl h1 hP1 hS1 T' rfl X'
  have es : (r.map (zc ad)).toList ++ st.map (zc ad) = (r.toList ++ st).map (zc ad) := by cases r <;> rfl
  rw [es] at st'
  exact ⟨t2, st' t2 a1, b1⟩
end zrows2
def zen : Nat → List zA → List (Nat × zA)
  | _, [] => []
  | i, v :: vs => (i, v) :: zen (if zcat v = 2 then i + 2 else i + 1) vs
theorem zen_map (ad : Nat → Nat) (as : List zA) : ∀ i, lv_args i (as.map (zc ad)) = (zen i as).map (fun q => (q.1, zc ad q.2)) := by
  induction as with
  | nil => intro i; rfl
  | cons v r ih =>
    intro i
    simp only [List.map_cons, lv_args, zen, zc_cat]
    rw [ih]
theorem zen_w {as : List zA} (h : zwS as) : ∀ i, ∀ q ∈ zen i as, zw q.2 := by
  induction as with
  | nil => intro i q hq; cases hq
  | cons v r ih =>
    intro i q hq
    rcases List.mem_cons.mp hq with rfl | hq
    · exact h.1
    · exact ih h.2 _ q hq
theorem z_lgl (ad : Nat → Nat) (as : List zA) : (lg_sl (as.map (zc ad))).length = (as.map zcat).sum := by
  induction as with
  | nil => rfl
  | cons v r ih =>
    have e : lg_sl ((v :: r).map (zc ad)) = lg_sl [zc ad v] ++ lg_sl (r.map (zc ad)) := by simp [lg_sl]
    rw [e, List.length_append, ih, List.map_cons, List.sum_cons]
    congr 1
    rcases v with a | x | (_ | k) <;> rfl
/-- a contract out of the walk from the method's entry -/
theorem zSp_of {d : Nat} {M : zM} {as : List zA} {h : zH} {Post : Option zA → zH → Prop} {en : List (Nat × zA)} (hp : plainName M.1.cls = true) (hn : (as.map zcat).sum ≤ M.2.2.1) (he : zen 0 as = en) (hV : ∀ Γ, zV M.1.cls M.2.1 M.2.2.1 M.2.2.2 d Post Γ 0 en [] h) : zSp d M as h Post := by
  subst he
  intro l D ad cI cZ cS hi
  refine Met.ofW (cc := M.2.1) (maxL := M.2.2.1) (ret := M.2.2.2) hp rfl ?_
  intro p e s m args below meth c s₁ B hml hv
  obtain ⟨rfl, hw, hwh, hP, hK, hn9⟩ := hv
  have hts := atoms_spec (ws := zws M) B.pre
  have hl := lv_entry (as.map (zc ad)) (n := M.2.2.1) (by rw [z_lgl]; exact hn)
  rw [lg_entry_eq]
  generalize (lg_sl (as.map (zc ad)) ++ List.replicate (M.2.2.1 - (lg_sl (as.map (zc ad))).length) Slot.unset).toArray = sl at hl ⊢
  rw [zen_map] at hl
  exact hV (p, l, e, s, m, (as.map (zc ad)).toArray, below, meth, c, D, ad, cI, cZ, cS) ⟨B.exec, B.bytes, hml, B.returns, B.notSynchronized, findClass_of_methodNamed B.named, fun w hw => hts w (List.mem_cons_of_mem _ hw), hK, hi, hn9⟩ (zen_w hw 0) trivial hwh s.heap [] sl hl hP va_S.rf
end
section
/-! words, methods, the cells' layout (printed by wip/gen/gen.py) -/
theorem inT0 : ∀ w ∈ u_ws RX0 TX0 2, w ∈ zT := by decide +kernel
theorem inT1 : ∀ w ∈ u_ws RX1 TX1 1, w ∈ zT := by decide +kernel
theorem inT2 : ∀ w ∈ u_ws RX2 TX2 3, w ∈ zT := by decide +kernel
theorem inT3 : ∀ w ∈ u_ws RX3 TX3 8, w ∈ zT := by decide +kernel
theorem inT4 : ∀ w ∈ u_ws RX4 TX4 8, w ∈ zT := by decide +kernel
theorem inT5 : ∀ w ∈ u_ws RX5 TX5 5, w ∈ zT := by decide +kernel
theorem inT6 : ∀ w ∈ u_ws RX6 TX6 10, w ∈ zT := by decide +kernel
theorem inT7 : ∀ w ∈ u_ws RX7 TX7 20, w ∈ zT := by decide +kernel
theorem wf_X6_10 : Cond.fieldLink RX6 10 "LentParts" "now" "LLentParts$State;" ∈ zT := zTin (List.mem_of_getElem? (i := 226) (by decide +kernel)) rfl
theorem wf_X6_16 : Cond.fieldLink RX6 16 "LentParts" "trial" "LLentParts$State;" ∈ zT := zTin (List.mem_of_getElem? (i := 227) (by decide +kernel)) rfl
theorem wf_X6_19 : Cond.fieldLink RX6 19 "LentParts" "snapshot" "LLentParts$State;" ∈ zT := zTin (List.mem_of_getElem? (i := 228) (by decide +kernel)) rfl
theorem wf_X6_25 : Cond.fieldLink RX6 25 "LentParts" "history" "LLentParts$History;" ∈ zT := zTin (List.mem_of_getElem? (i := 229) (by decide +kernel)) rfl
theorem wf_X6_32 : Cond.fieldLink RX6 32 "LentParts" "gathering" "LLentParts$Gathering;" ∈ zT := zTin (List.mem_of_getElem? (i := 230) (by decide +kernel)) rfl
theorem wf_X6_39 : Cond.fieldLink RX6 39 "LentParts" "text" "LLentParts$Text;" ∈ zT := zTin (List.mem_of_getElem? (i := 231) (by decide +kernel)) rfl
theorem wf_X6_83 : Cond.fieldLink RX6 83 "LentParts$State" "value" "[I" ∈ zT := zTin (List.mem_of_getElem? (i := 142) (by decide +kernel)) rfl
theorem wf_X6_110 : Cond.fieldLink RX6 110 "LentParts" "stopped" "Z" ∈ zT := zTin (List.mem_of_getElem? (i := 233) (by decide +kernel)) rfl
theorem wf_X6_114 : Cond.fieldLink RX6 114 "LentParts" "stoppedAct" "I" ∈ zT := zTin (List.mem_of_getElem? (i := 234) (by decide +kernel)) rfl
theorem wf_X6_118 : Cond.fieldLink RX6 118 "LentParts" "stoppedBy" "I" ∈ zT := zTin (List.mem_of_getElem? (i := 235) (by decide +kernel)) rfl
theorem wf_X6_131 : Cond.fieldLink RX6 131 "LentParts" "kept" "Z" ∈ zT := zTin (List.mem_of_getElem? (i := 232) (by decide +kernel)) rfl
theorem wf_X6_134 : Cond.fieldLink RX6 134 "LentParts$State" "loans" "LLentParts$Loans;" ∈ zT := zTin (List.mem_of_getElem? (i := 153) (by decide +kernel)) rfl
theorem wf_X6_138 : Cond.fieldLink RX6 138 "LentParts$Loans" "standing" "I" ∈ zT := zTin (List.mem_of_getElem? (i := 118) (by decide +kernel)) rfl
theorem wf_X6_143 : Cond.fieldLink RX6 143 "LentParts$State" "version" "[I" ∈ zT := zTin (List.mem_of_getElem? (i := 144) (by decide +kernel)) rfl
theorem wf_X6_146 : Cond.fieldLink RX6 146 "LentParts$State" "owner" "[I" ∈ zT := zTin (List.mem_of_getElem? (i := 146) (by decide +kernel)) rfl
theorem wf_X6_152 : Cond.fieldLink RX6 152 "LentParts$State" "claims" "LLentParts$Claims;" ∈ zT := zTin (List.mem_of_getElem? (i := 150) (by decide +kernel)) rfl
theorem wf_X6_191 : Cond.fieldLink RX6 191 "LentParts$Loans" "lender" "[I" ∈ zT := zTin (List.mem_of_getElem? (i := 104) (by decide +kernel)) rfl
theorem wf_X6_194 : Cond.fieldLink RX6 194 "LentParts$Loans" "borrower" "[I" ∈ zT := zTin (List.mem_of_getElem? (i := 108) (by decide +kernel)) rfl
theorem wf_X6_197 : Cond.fieldLink RX6 197 "LentParts$Loans" "cell" "[I" ∈ zT := zTin (List.mem_of_getElem? (i := 112) (by decide +kernel)) rfl
theorem wf_X6_200 : Cond.fieldLink RX6 200 "LentParts$Loans" "parts" "[I" ∈ zT := zTin (List.mem_of_getElem? (i := 116) (by decide +kernel)) rfl
theorem wf_X6_209 : Cond.fieldLink RX6 209 "LentParts$Loans" "made" "I" ∈ zT := zTin (List.mem_of_getElem? (i := 120) (by decide +kernel)) rfl
theorem wf_X6_218 : Cond.fieldLink RX6 218 "LentParts$State" "writes" "I" ∈ zT := zTin (List.mem_of_getElem? (i := 155) (by decide +kernel)) rfl
theorem wf_X6_221 : Cond.fieldLink RX6 221 "LentParts$Loans" "ended" "I" ∈ zT := zTin (List.mem_of_getElem? (i := 123) (by decide +kernel)) rfl
theorem wf_X6_241 : Cond.fieldLink RX6 241 "LentParts$Text" "acts" "I" ∈ zT := zTin (List.mem_of_getElem? (i := 214) (by decide +kernel)) rfl
theorem wf_X6_247 : Cond.fieldLink RX6 247 "LentParts$Text" "slots" "[I" ∈ zT := zTin (List.mem_of_getElem? (i := 212) (by decide +kernel)) rfl
theorem wf_X0_9 : Cond.fieldLink RX0 9 "LentParts$Claims" "agents" "[I" ∈ zT := zTin (List.mem_of_getElem? (i := 87) (by decide +kernel)) rfl
theorem wf_X0_15 : Cond.fieldLink RX0 15 "LentParts$Claims" "sizes" "[I" ∈ zT := zTin (List.mem_of_getElem? (i := 88) (by decide +kernel)) rfl
theorem wf_X1_9 : Cond.fieldLink RX1 9 "LentParts$Gathering" "idleAt" "[I" ∈ zT := zTin (List.mem_of_getElem? (i := 198) (by decide +kernel)) rfl
theorem wf_X1_21 : Cond.fieldLink RX1 21 "LentParts$State" "loans" "LLentParts$Loans;" ∈ zT := zTin (List.mem_of_getElem? (i := 152) (by decide +kernel)) rfl
theorem wf_X1_27 : Cond.fieldLink RX1 27 "LentParts$Loans" "ended" "I" ∈ zT := zTin (List.mem_of_getElem? (i := 121) (by decide +kernel)) rfl
theorem wf_X1_49 : Cond.fieldLink RX1 49 "LentParts$Loans" "borrower" "[I" ∈ zT := zTin (List.mem_of_getElem? (i := 106) (by decide +kernel)) rfl
theorem wf_X1_52 : Cond.fieldLink RX1 52 "LentParts$Loans" "cell" "[I" ∈ zT := zTin (List.mem_of_getElem? (i := 110) (by decide +kernel)) rfl
theorem wf_X1_59 : Cond.fieldLink RX1 59 "LentParts$Loans" "parts" "[I" ∈ zT := zTin (List.mem_of_getElem? (i := 114) (by decide +kernel)) rfl
theorem wf_X2_13 : Cond.fieldLink RX2 13 "LentParts$History" "rows" "[LLentParts$State;" ∈ zT := zTin (List.mem_of_getElem? (i := 182) (by decide +kernel)) rfl
theorem wf_X2_18 : Cond.fieldLink RX2 18 "LentParts$History" "size" "I" ∈ zT := zTin (List.mem_of_getElem? (i := 184) (by decide +kernel)) rfl
theorem wf_X2_22 : Cond.fieldLink RX2 22 "LentParts$History" "open" "I" ∈ zT := zTin (List.mem_of_getElem? (i := 183) (by decide +kernel)) rfl
theorem wf_X3_9 : Cond.fieldLink RX3 9 "LentParts$Loans" "number" "[I" ∈ zT := zTin (List.mem_of_getElem? (i := 101) (by decide +kernel)) rfl
theorem wf_X3_15 : Cond.fieldLink RX3 15 "LentParts$Loans" "lender" "[I" ∈ zT := zTin (List.mem_of_getElem? (i := 102) (by decide +kernel)) rfl
theorem wf_X3_18 : Cond.fieldLink RX3 18 "LentParts$Loans" "borrower" "[I" ∈ zT := zTin (List.mem_of_getElem? (i := 105) (by decide +kernel)) rfl
theorem wf_X3_21 : Cond.fieldLink RX3 21 "LentParts$Loans" "cell" "[I" ∈ zT := zTin (List.mem_of_getElem? (i := 109) (by decide +kernel)) rfl
theorem wf_X3_24 : Cond.fieldLink RX3 24 "LentParts$Loans" "parts" "[I" ∈ zT := zTin (List.mem_of_getElem? (i := 113) (by decide +kernel)) rfl
theorem wf_X3_27 : Cond.fieldLink RX3 27 "LentParts$Loans" "standing" "I" ∈ zT := zTin (List.mem_of_getElem? (i := 117) (by decide +kernel)) rfl
theorem wf_X3_31 : Cond.fieldLink RX3 31 "LentParts$Loans" "made" "I" ∈ zT := zTin (List.mem_of_getElem? (i := 119) (by decide +kernel)) rfl
theorem wf_X3_34 : Cond.fieldLink RX3 34 "LentParts$Loans" "ended" "I" ∈ zT := zTin (List.mem_of_getElem? (i := 122) (by decide +kernel)) rfl
theorem wf_X4_9 : Cond.fieldLink RX4 9 "LentParts$State" "value" "[I" ∈ zT := zTin (List.mem_of_getElem? (i := 141) (by decide +kernel)) rfl
theorem wf_X4_15 : Cond.fieldLink RX4 15 "LentParts$State" "version" "[I" ∈ zT := zTin (List.mem_of_getElem? (i := 143) (by decide +kernel)) rfl
theorem wf_X4_18 : Cond.fieldLink RX4 18 "LentParts$State" "owner" "[I" ∈ zT := zTin (List.mem_of_getElem? (i := 145) (by decide +kernel)) rfl
theorem wf_X4_21 : Cond.fieldLink RX4 21 "LentParts$State" "held" "[I" ∈ zT := zTin (List.mem_of_getElem? (i := 147) (by decide +kernel)) rfl
theorem wf_X4_24 : Cond.fieldLink RX4 24 "LentParts$State" "holding" "[I" ∈ zT := zTin (List.mem_of_getElem? (i := 148) (by decide +kernel)) rfl
theorem wf_X4_30 : Cond.fieldLink RX4 30 "LentParts$State" "claims" "LLentParts$Claims;" ∈ zT := zTin (List.mem_of_getElem? (i := 149) (by decide +kernel)) rfl
theorem wf_X4_37 : Cond.fieldLink RX4 37 "LentParts$State" "loans" "LLentParts$Loans;" ∈ zT := zTin (List.mem_of_getElem? (i := 151) (by decide +kernel)) rfl
theorem wf_X4_54 : Cond.fieldLink RX4 54 "LentParts$State" "writes" "I" ∈ zT := zTin (List.mem_of_getElem? (i := 154) (by decide +kernel)) rfl
theorem wf_X4_95 : Cond.fieldLink RX4 95 "LentParts$Loans" "lender" "[I" ∈ zT := zTin (List.mem_of_getElem? (i := 103) (by decide +kernel)) rfl
theorem wf_X4_98 : Cond.fieldLink RX4 98 "LentParts$Loans" "cell" "[I" ∈ zT := zTin (List.mem_of_getElem? (i := 111) (by decide +kernel)) rfl
theorem wf_X4_105 : Cond.fieldLink RX4 105 "LentParts$Loans" "borrower" "[I" ∈ zT := zTin (List.mem_of_getElem? (i := 107) (by decide +kernel)) rfl
theorem wf_X4_108 : Cond.fieldLink RX4 108 "LentParts$Loans" "parts" "[I" ∈ zT := zTin (List.mem_of_getElem? (i := 115) (by decide +kernel)) rfl
theorem wf_X5_9 : Cond.fieldLink RX5 9 "LentParts$Text" "signs" "[I" ∈ zT := zTin (List.mem_of_getElem? (i := 208) (by decide +kernel)) rfl
theorem wf_X5_15 : Cond.fieldLink RX5 15 "LentParts$Text" "slots" "[I" ∈ zT := zTin (List.mem_of_getElem? (i := 211) (by decide +kernel)) rfl
theorem wf_X5_18 : Cond.fieldLink RX5 18 "LentParts$Text" "length" "I" ∈ zT := zTin (List.mem_of_getElem? (i := 209) (by decide +kernel)) rfl
theorem wf_X5_22 : Cond.fieldLink RX5 22 "LentParts$Text" "place" "I" ∈ zT := zTin (List.mem_of_getElem? (i := 210) (by decide +kernel)) rfl
theorem wf_X5_25 : Cond.fieldLink RX5 25 "LentParts$Text" "acts" "I" ∈ zT := zTin (List.mem_of_getElem? (i := 213) (by decide +kernel)) rfl
theorem wf_X7_7 : Cond.fieldLink RX7 7 "LentPartsModel" "s" "[I" ∈ zT := zTin (List.mem_of_getElem? (i := 677) (by decide +kernel)) rfl
theorem wf_X7_13 : Cond.fieldLink RX7 13 "LentPartsModel" "aside" "[I" ∈ zT := zTin (List.mem_of_getElem? (i := 678) (by decide +kernel)) rfl
theorem wf_X7_16 : Cond.fieldLink RX7 16 "LentPartsModel" "asideToo" "[I" ∈ zT := zTin (List.mem_of_getElem? (i := 679) (by decide +kernel)) rfl
theorem wf_X7_19 : Cond.fieldLink RX7 19 "LentPartsModel" "before" "[I" ∈ zT := zTin (List.mem_of_getElem? (i := 680) (by decide +kernel)) rfl
theorem wf_X7_22 : Cond.fieldLink RX7 22 "LentPartsModel" "kept" "[I" ∈ zT := zTin (List.mem_of_getElem? (i := 682) (by decide +kernel)) rfl
theorem wf_X7_25 : Cond.fieldLink RX7 25 "LentPartsModel" "text" "[I" ∈ zT := zTin (List.mem_of_getElem? (i := 684) (by decide +kernel)) rfl
theorem wf_X7_28 : Cond.fieldLink RX7 28 "LentPartsModel" "stoppedAt" "I" ∈ zT := zTin (List.mem_of_getElem? (i := 686) (by decide +kernel)) rfl
theorem wf_X7_32 : Cond.fieldLink RX7 32 "LentPartsModel" "stoppedBy" "I" ∈ zT := zTin (List.mem_of_getElem? (i := 687) (by decide +kernel)) rfl
theorem wf_X7_35 : Cond.fieldLink RX7 35 "LentPartsModel" "agents" "[I" ∈ zT := zTin (List.mem_of_getElem? (i := 688) (by decide +kernel)) rfl
theorem wf_X7_38 : Cond.fieldLink RX7 38 "LentPartsModel" "ats" "[I" ∈ zT := zTin (List.mem_of_getElem? (i := 689) (by decide +kernel)) rfl
theorem wf_X7_41 : Cond.fieldLink RX7 41 "LentPartsModel" "waits" "[Z" ∈ zT := zTin (List.mem_of_getElem? (i := 690) (by decide +kernel)) rfl
theorem wf_X7_45 : Cond.fieldLink RX7 45 "LentPartsModel" "told" "[I" ∈ zT := zTin (List.mem_of_getElem? (i := 694) (by decide +kernel)) rfl
theorem wf_X7_48 : Cond.fieldLink RX7 48 "LentPartsModel" "ends" "[Z" ∈ zT := zTin (List.mem_of_getElem? (i := 696) (by decide +kernel)) rfl
theorem wf_X7_66 : Cond.fieldLink RX7 66 "LentPartsModel" "known" "I" ∈ zT := zTin (List.mem_of_getElem? (i := 681) (by decide +kernel)) rfl
theorem wf_X7_75 : Cond.fieldLink RX7 75 "LentPartsModel" "deep" "I" ∈ zT := zTin (List.mem_of_getElem? (i := 691) (by decide +kernel)) rfl
theorem wf_X7_148 : Cond.fieldLink RX7 148 "LentPartsModel" "typed" "I" ∈ zT := zTin (List.mem_of_getElem? (i := 685) (by decide +kernel)) rfl
theorem wf_X7_151 : Cond.fieldLink RX7 151 "LentPartsModel" "at" "I" ∈ zT := zTin (List.mem_of_getElem? (i := 692) (by decide +kernel)) rfl
theorem wf_X7_154 : Cond.fieldLink RX7 154 "LentPartsModel" "isWrong" "Z" ∈ zT := zTin (List.mem_of_getElem? (i := 693) (by decide +kernel)) rfl
theorem wf_X7_168 : Cond.fieldLink RX7 168 "LentPartsModel" "fault" "I" ∈ zT := zTin (List.mem_of_getElem? (i := 695) (by decide +kernel)) rfl
theorem wf_X7_181 : Cond.fieldLink RX7 181 "LentPartsModel" "isKept" "Z" ∈ zT := zTin (List.mem_of_getElem? (i := 683) (by decide +kernel)) rfl
theorem wc_J6_265 : Cond.constant RJ6 265 1431655765 ∈ zT := zTin (List.mem_of_getElem? (i := 594) (by decide +kernel)) rfl
theorem wc_J6_266 : Cond.constant RJ6 266 858993459 ∈ zT := zTin (List.mem_of_getElem? (i := 595) (by decide +kernel)) rfl
theorem wc_J6_267 : Cond.constant RJ6 267 252645135 ∈ zT := zTin (List.mem_of_getElem? (i := 596) (by decide +kernel)) rfl
theorem wl_X6_43 : Cond.methodLink RX6 43 yX2_open ∈ zT := zTin (List.mem_of_getElem? (i := 261) (by decide +kernel)) rfl
theorem wl_X6_47 : Cond.methodLink RX6 47 yX4_makeLoan ∈ zT := zTin (List.mem_of_getElem? (i := 282) (by decide +kernel)) rfl
theorem wl_X6_51 : Cond.methodLink RX6 51 yX6_close ∈ zT := zTin (List.mem_of_getElem? (i := 312) (by decide +kernel)) rfl
theorem wl_X6_55 : Cond.methodLink RX6 55 yX4_makeHalfLoan ∈ zT := zTin (List.mem_of_getElem? (i := 332) (by decide +kernel)) rfl
theorem wl_X6_59 : Cond.methodLink RX6 59 yX4_endLoan ∈ zT := zTin (List.mem_of_getElem? (i := 341) (by decide +kernel)) rfl
theorem wl_X6_62 : Cond.methodLink RX6 62 yX6_gatherCell ∈ zT := zTin (List.mem_of_getElem? (i := 365) (by decide +kernel)) rfl
theorem wl_X6_66 : Cond.methodLink RX6 66 yX4_setHolding ∈ zT := zTin (List.mem_of_getElem? (i := 399) (by decide +kernel)) rfl
theorem wl_X6_70 : Cond.methodLink RX6 70 yX4_writeValue ∈ zT := zTin (List.mem_of_getElem? (i := 407) (by decide +kernel)) rfl
theorem wl_X6_73 : Cond.methodLink RX6 73 yX6_isAgent ∈ zT := zTin (List.mem_of_getElem? (i := 369) (by decide +kernel)) rfl
theorem wl_X6_77 : Cond.methodLink RX6 77 yX6_isCell ∈ zT := zTin (List.mem_of_getElem? (i := 370) (by decide +kernel)) rfl
theorem wl_X6_80 : Cond.methodLink RX6 80 yX4_heldBy ∈ zT := zTin (List.mem_of_getElem? (i := 394) (by decide +kernel)) rfl
theorem wl_X6_87 : Cond.methodLink RX6 87 yX4_setClaim ∈ zT := zTin (List.mem_of_getElem? (i := 419) (by decide +kernel)) rfl
theorem wl_X6_90 : Cond.methodLink RX6 90 yX6_serveClaims ∈ zT := zTin (List.mem_of_getElem? (i := 443) (by decide +kernel)) rfl
theorem wl_X6_93 : Cond.methodLink RX6 93 yX4_changeOwner ∈ zT := zTin (List.mem_of_getElem? (i := 461) (by decide +kernel)) rfl
theorem wl_X6_96 : Cond.methodLink RX6 96 yX5_append ∈ zT := zTin (List.mem_of_getElem? (i := 473) (by decide +kernel)) rfl
theorem wl_X6_100 : Cond.methodLink RX6 100 yX5_empty ∈ zT := zTin (List.mem_of_getElem? (i := 481) (by decide +kernel)) rfl
theorem wl_X6_104 : Cond.methodLink RX6 104 yX5_findFault ∈ zT := zTin (List.mem_of_getElem? (i := 489) (by decide +kernel)) rfl
theorem wl_X6_107 : Cond.methodLink RX6 107 yX6_performActs ∈ zT := zTin (List.mem_of_getElem? (i := 541) (by decide +kernel)) rfl
theorem wl_X6_121 : Cond.methodLink RX6 121 yX2_takeLatest ∈ zT := zTin (List.mem_of_getElem? (i := 557) (by decide +kernel)) rfl
theorem wl_X6_125 : Cond.methodLink RX6 125 yX4_copyFrom ∈ zT := zTin (List.mem_of_getElem? (i := 320) (by decide +kernel)) rfl
theorem wl_X6_128 : Cond.methodLink RX6 128 yX2_size ∈ zT := zTin (List.mem_of_getElem? (i := 561) (by decide +kernel)) rfl
theorem wl_X6_149 : Cond.methodLink RX6 149 yX4_countReaders ∈ zT := zTin (List.mem_of_getElem? (i := 577) (by decide +kernel)) rfl
theorem wl_X6_156 : Cond.methodLink RX6 156 yX0_size ∈ zT := zTin (List.mem_of_getElem? (i := 447) (by decide +kernel)) rfl
theorem wl_X6_160 : Cond.methodLink RX6 160 yX0_first ∈ zT := zTin (List.mem_of_getElem? (i := 581) (by decide +kernel)) rfl
theorem wl_X6_163 : Cond.methodLink RX6 163 yX3_countOf ∈ zT := zTin (List.mem_of_getElem? (i := 582) (by decide +kernel)) rfl
theorem wl_X6_166 : Cond.methodLink RX6 166 yX4_holderOfWhole ∈ zT := zTin (List.mem_of_getElem? (i := 583) (by decide +kernel)) rfl
theorem wl_X6_169 : Cond.methodLink RX6 169 yX4_countHolding ∈ zT := zTin (List.mem_of_getElem? (i := 587) (by decide +kernel)) rfl
theorem wl_X6_172 : Cond.methodLink RX6 172 yX3_partsLent ∈ zT := zTin (List.mem_of_getElem? (i := 601) (by decide +kernel)) rfl
theorem wl_X6_175 : Cond.methodLink RX6 175 yX3_partsBorrowed ∈ zT := zTin (List.mem_of_getElem? (i := 609) (by decide +kernel)) rfl
theorem wl_X6_178 : Cond.methodLink RX6 178 yX4_isHolding ∈ zT := zTin (List.mem_of_getElem? (i := 448) (by decide +kernel)) rfl
theorem wl_X6_182 : Cond.methodLink RX6 182 yX0_placeOf ∈ zT := zTin (List.mem_of_getElem? (i := 613) (by decide +kernel)) rfl
theorem wl_X6_185 : Cond.methodLink RX6 185 yX6_heldAfterGathering ∈ zT := zTin (List.mem_of_getElem? (i := 614) (by decide +kernel)) rfl
theorem wl_X6_188 : Cond.methodLink RX6 188 yX3_rowOf ∈ zT := zTin (List.mem_of_getElem? (i := 622) (by decide +kernel)) rfl
theorem wl_X6_203 : Cond.methodLink RX6 203 yX4_canEndLoan ∈ zT := zTin (List.mem_of_getElem? (i := 623) (by decide +kernel)) rfl
theorem wl_X6_206 : Cond.methodLink RX6 206 yX3_longestChain ∈ zT := zTin (List.mem_of_getElem? (i := 632) (by decide +kernel)) rfl
theorem wl_X6_212 : Cond.methodLink RX6 212 yX4_countWholeCells ∈ zT := zTin (List.mem_of_getElem? (i := 650) (by decide +kernel)) rfl
theorem wl_X6_215 : Cond.methodLink RX6 215 yX0_sizeOfAll ∈ zT := zTin (List.mem_of_getElem? (i := 655) (by decide +kernel)) rfl
theorem wl_X6_224 : Cond.methodLink RX6 224 yX4_countAllHolding ∈ zT := zTin (List.mem_of_getElem? (i := 659) (by decide +kernel)) rfl
theorem wl_X6_227 : Cond.methodLink RX6 227 yX5_size ∈ zT := zTin (List.mem_of_getElem? (i := 664) (by decide +kernel)) rfl
theorem wl_X6_228 : Cond.methodLink RX6 228 yX2_opened ∈ zT := zTin (List.mem_of_getElem? (i := 316) (by decide +kernel)) rfl
theorem wl_X6_231 : Cond.methodLink RX6 231 yX2_record ∈ zT := zTin (List.mem_of_getElem? (i := 321) (by decide +kernel)) rfl
theorem wl_X6_234 : Cond.methodLink RX6 234 yX1_run ∈ zT := zTin (List.mem_of_getElem? (i := 371) (by decide +kernel)) rfl
theorem wl_X6_238 : Cond.methodLink RX6 238 yX4_grantFirstClaim ∈ zT := zTin (List.mem_of_getElem? (i := 449) (by decide +kernel)) rfl
theorem wl_X6_244 : Cond.methodLink RX6 244 yX6_performAct ∈ zT := zTin (List.mem_of_getElem? (i := 545) (by decide +kernel)) rfl
theorem wl_X0_18 : Cond.methodLink RX0 18 arraycopyName ∈ zT := zTin (List.mem_of_getElem? (i := 276) (by decide +kernel)) rfl
theorem wl_X1_15 : Cond.methodLink RX1 15 yJ7_fill_53178 ∈ zT := zTin (List.mem_of_getElem? (i := 375) (by decide +kernel)) rfl
theorem wl_X1_33 : Cond.methodLink RX1 33 yX1_gatherFor ∈ zT := zTin (List.mem_of_getElem? (i := 378) (by decide +kernel)) rfl
theorem wl_X1_37 : Cond.methodLink RX1 37 yX3_latestAhead ∈ zT := zTin (List.mem_of_getElem? (i := 382) (by decide +kernel)) rfl
theorem wl_X1_41 : Cond.methodLink RX1 41 yX1_callIn ∈ zT := zTin (List.mem_of_getElem? (i := 386) (by decide +kernel)) rfl
theorem wl_X1_45 : Cond.methodLink RX1 45 yX3_rowOf ∈ zT := zTin (List.mem_of_getElem? (i := 390) (by decide +kernel)) rfl
theorem wl_X1_55 : Cond.methodLink RX1 55 yX4_heldBy ∈ zT := zTin (List.mem_of_getElem? (i := 391) (by decide +kernel)) rfl
theorem wl_X1_62 : Cond.methodLink RX1 62 yX4_canEndLoan ∈ zT := zTin (List.mem_of_getElem? (i := 392) (by decide +kernel)) rfl
theorem wl_X1_66 : Cond.methodLink RX1 66 yX4_returnParts ∈ zT := zTin (List.mem_of_getElem? (i := 393) (by decide +kernel)) rfl
theorem wl_X2_25 : Cond.methodLink RX2 25 yX4_copyFrom ∈ zT := zTin (List.mem_of_getElem? (i := 265) (by decide +kernel)) rfl
theorem wl_X2_29 : Cond.methodLink RX2 29 yJ9_min_7cf53 ∈ zT := zTin (List.mem_of_getElem? (i := 325) (by decide +kernel)) rfl
theorem wl_X3_37 : Cond.methodLink RX3 37 arraycopyName ∈ zT := zTin (List.mem_of_getElem? (i := 281) (by decide +kernel)) rfl
theorem wl_X3_43 : Cond.methodLink RX3 43 yX3_sumParts ∈ zT := zTin (List.mem_of_getElem? (i := 605) (by decide +kernel)) rfl
theorem wl_X3_47 : Cond.methodLink RX3 47 yX3_linksOf ∈ zT := zTin (List.mem_of_getElem? (i := 636) (by decide +kernel)) rfl
theorem wl_X3_51 : Cond.methodLink RX3 51 yX3_longestFrom ∈ zT := zTin (List.mem_of_getElem? (i := 640) (by decide +kernel)) rfl
theorem wl_X3_55 : Cond.methodLink RX3 55 yJ9_max_7cf53 ∈ zT := zTin (List.mem_of_getElem? (i := 643) (by decide +kernel)) rfl
theorem wl_X4_41 : Cond.methodLink RX4 41 arraycopyName ∈ zT := zTin (List.mem_of_getElem? (i := 269) (by decide +kernel)) rfl
theorem wl_X4_47 : Cond.methodLink RX4 47 yX0_copyFrom ∈ zT := zTin (List.mem_of_getElem? (i := 272) (by decide +kernel)) rfl
theorem wl_X4_51 : Cond.methodLink RX4 51 yX3_copyFrom ∈ zT := zTin (List.mem_of_getElem? (i := 277) (by decide +kernel)) rfl
theorem wl_X4_58 : ∀ U, zNe U → va_Nw (.methodLinkNest RX4 58 yX6_isAgent "LentParts") U := fun _ h => h.1
theorem wl_X4_62 : ∀ U, zNe U → va_Nw (.methodLinkNest RX4 62 yX6_isCell "LentParts") U := fun _ h => h.2
theorem wl_X4_65 : Cond.methodLink RX4 65 yX4_heldBy ∈ zT := zTin (List.mem_of_getElem? (i := 292) (by decide +kernel)) rfl
theorem wl_X4_69 : Cond.methodLink RX4 69 yX4_isHolding ∈ zT := zTin (List.mem_of_getElem? (i := 296) (by decide +kernel)) rfl
theorem wl_X4_73 : Cond.methodLink RX4 73 yX3_hasRoom ∈ zT := zTin (List.mem_of_getElem? (i := 300) (by decide +kernel)) rfl
theorem wl_X4_77 : Cond.methodLink RX4 77 yX4_moveParts ∈ zT := zTin (List.mem_of_getElem? (i := 304) (by decide +kernel)) rfl
theorem wl_X4_81 : Cond.methodLink RX4 81 yX3_append ∈ zT := zTin (List.mem_of_getElem? (i := 308) (by decide +kernel)) rfl
theorem wl_X4_85 : Cond.methodLink RX4 85 yX4_makeLoan ∈ zT := zTin (List.mem_of_getElem? (i := 336) (by decide +kernel)) rfl
theorem wl_X4_88 : Cond.methodLink RX4 88 yX3_rowOf ∈ zT := zTin (List.mem_of_getElem? (i := 345) (by decide +kernel)) rfl
theorem wl_X4_92 : Cond.methodLink RX4 92 yX4_canEndLoan ∈ zT := zTin (List.mem_of_getElem? (i := 349) (by decide +kernel)) rfl
theorem wl_X4_101 : Cond.methodLink RX4 101 yX4_returnParts ∈ zT := zTin (List.mem_of_getElem? (i := 353) (by decide +kernel)) rfl
theorem wl_X4_111 : Cond.methodLink RX4 111 yX3_remove ∈ zT := zTin (List.mem_of_getElem? (i := 357) (by decide +kernel)) rfl
theorem wl_X4_114 : Cond.methodLink RX4 114 yX0_placeOf ∈ zT := zTin (List.mem_of_getElem? (i := 423) (by decide +kernel)) rfl
theorem wl_X4_117 : Cond.methodLink RX4 117 yX0_append ∈ zT := zTin (List.mem_of_getElem? (i := 427) (by decide +kernel)) rfl
theorem wl_X4_120 : Cond.methodLink RX4 120 yX0_remove ∈ zT := zTin (List.mem_of_getElem? (i := 431) (by decide +kernel)) rfl
theorem wl_X4_122 : Cond.methodLink RX4 122 yX0_size ∈ zT := zTin (List.mem_of_getElem? (i := 435) (by decide +kernel)) rfl
theorem wl_X4_125 : Cond.methodLink RX4 125 yX0_first ∈ zT := zTin (List.mem_of_getElem? (i := 453) (by decide +kernel)) rfl
theorem wl_X4_128 : Cond.methodLink RX4 128 yX3_countOf ∈ zT := zTin (List.mem_of_getElem? (i := 465) (by decide +kernel)) rfl
theorem wl_X4_131 : Cond.methodLink RX4 131 yX4_holderOfWhole ∈ zT := zTin (List.mem_of_getElem? (i := 654) (by decide +kernel)) rfl
theorem wl_X4_134 : Cond.methodLink RX4 134 yJ6_bitCount_0f7a4 ∈ zT := zTin (List.mem_of_getElem? (i := 591) (by decide +kernel)) rfl
theorem wl_X4_139 : Cond.methodLink RX4 139 yX4_countHolding ∈ zT := zTin (List.mem_of_getElem? (i := 663) (by decide +kernel)) rfl
theorem wl_X5_28 : Cond.methodLink RX5 28 yX5_readAct ∈ zT := zTin (List.mem_of_getElem? (i := 493) (by decide +kernel)) rfl
theorem wl_X5_32 : Cond.methodLink RX5 32 yX5_readSign ∈ zT := zTin (List.mem_of_getElem? (i := 509) (by decide +kernel)) rfl
theorem wl_X5_36 : Cond.methodLink RX5 36 yX5_readForm ∈ zT := zTin (List.mem_of_getElem? (i := 497) (by decide +kernel)) rfl
theorem wl_X5_39 : Cond.methodLink RX5 39 yX5_signHere ∈ zT := zTin (List.mem_of_getElem? (i := 501) (by decide +kernel)) rfl
theorem wl_X5_43 : Cond.methodLink RX5 43 yX5_readLoan ∈ zT := zTin (List.mem_of_getElem? (i := 505) (by decide +kernel)) rfl
theorem wl_X5_46 : Cond.methodLink RX5 46 yX5_readReturn ∈ zT := zTin (List.mem_of_getElem? (i := 529) (by decide +kernel)) rfl
theorem wl_X5_49 : Cond.methodLink RX5 49 yX5_readWrite ∈ zT := zTin (List.mem_of_getElem? (i := 533) (by decide +kernel)) rfl
theorem wl_X5_52 : Cond.methodLink RX5 52 yX5_readGathering ∈ zT := zTin (List.mem_of_getElem? (i := 537) (by decide +kernel)) rfl
theorem wl_X5_55 : Cond.methodLink RX5 55 yX5_readDigit ∈ zT := zTin (List.mem_of_getElem? (i := 513) (by decide +kernel)) rfl
theorem wl_X5_59 : Cond.methodLink RX5 59 yX5_readPair ∈ zT := zTin (List.mem_of_getElem? (i := 521) (by decide +kernel)) rfl
theorem wl_X5_62 : Cond.methodLink RX5 62 yX5_readNumber ∈ zT := zTin (List.mem_of_getElem? (i := 525) (by decide +kernel)) rfl
theorem wl_X5_66 : Cond.methodLink RX5 66 yX5_digitHere ∈ zT := zTin (List.mem_of_getElem? (i := 517) (by decide +kernel)) rfl
theorem wl_X7_51 : Cond.methodLink RX7 51 yX7_held ∈ zT := zTin (List.mem_of_getElem? (i := 674) (by decide +kernel)) rfl
theorem wl_X7_55 : Cond.methodLink RX7 55 yX7_in ∈ zT := zTin (List.mem_of_getElem? (i := 750) (by decide +kernel)) rfl
theorem wl_X7_59 : Cond.methodLink RX7 59 yX7_isAgent ∈ zT := zTin (List.mem_of_getElem? (i := 747) (by decide +kernel)) rfl
theorem wl_X7_63 : Cond.methodLink RX7 63 yX7_isCell ∈ zT := zTin (List.mem_of_getElem? (i := 753) (by decide +kernel)) rfl
theorem wl_X7_69 : Cond.methodLink RX7 69 yX7_of ∈ zT := zTin (List.mem_of_getElem? (i := 771) (by decide +kernel)) rfl
theorem wl_X7_72 : Cond.methodLink RX7 72 yX7_holds ∈ zT := zTin (List.mem_of_getElem? (i := 756) (by decide +kernel)) rfl
theorem wl_X7_78 : Cond.methodLink RX7 78 yX7_enter ∈ zT := zTin (List.mem_of_getElem? (i := 813) (by decide +kernel)) rfl
theorem wl_X7_82 : Cond.methodLink RX7 82 yX7_placeOf ∈ zT := zTin (List.mem_of_getElem? (i := 786) (by decide +kernel)) rfl
theorem wl_X7_86 : Cond.methodLink RX7 86 yX7_latest ∈ zT := zTin (List.mem_of_getElem? (i := 817) (by decide +kernel)) rfl
theorem wl_X7_90 : Cond.methodLink RX7 90 yX7_isGathering ∈ zT := zTin (List.mem_of_getElem? (i := 821) (by decide +kernel)) rfl
theorem wl_X7_93 : Cond.methodLink RX7 93 yX7_canGive ∈ zT := zTin (List.mem_of_getElem? (i := 790) (by decide +kernel)) rfl
theorem wl_X7_96 : Cond.methodLink RX7 96 yX7_gives ∈ zT := zTin (List.mem_of_getElem? (i := 794) (by decide +kernel)) rfl
theorem wl_X7_99 : Cond.methodLink RX7 99 yX7_gathers ∈ zT := zTin (List.mem_of_getElem? (i := 809) (by decide +kernel)) rfl
theorem wl_X7_102 : Cond.methodLink RX7 102 yX7_isFull ∈ zT := zTin (List.mem_of_getElem? (i := 759) (by decide +kernel)) rfl
theorem wl_X7_106 : Cond.methodLink RX7 106 yX7_areBoth ∈ zT := zTin (List.mem_of_getElem? (i := 802) (by decide +kernel)) rfl
theorem wl_X7_110 : Cond.methodLink RX7 110 yX7_lendFault ∈ zT := zTin (List.mem_of_getElem? (i := 743) (by decide +kernel)) rfl
theorem wl_X7_114 : Cond.methodLink RX7 114 yX7_know ∈ zT := zTin (List.mem_of_getElem? (i := 763) (by decide +kernel)) rfl
theorem wl_X7_117 : Cond.methodLink RX7 117 yX7_lends ∈ zT := zTin (List.mem_of_getElem? (i := 767) (by decide +kernel)) rfl
theorem wl_X7_120 : Cond.methodLink RX7 120 yX7_backFault ∈ zT := zTin (List.mem_of_getElem? (i := 782) (by decide +kernel)) rfl
theorem wl_X7_123 : Cond.methodLink RX7 123 yX7_putAside ∈ zT := zTin (List.mem_of_getElem? (i := 805) (by decide +kernel)) rfl
theorem wl_X7_126 : Cond.methodLink RX7 126 yX7_putBack ∈ zT := zTin (List.mem_of_getElem? (i := 825) (by decide +kernel)) rfl
theorem wl_X7_129 : Cond.methodLink RX7 129 yX7_writeFault ∈ zT := zTin (List.mem_of_getElem? (i := 837) (by decide +kernel)) rfl
theorem wl_X7_132 : Cond.methodLink RX7 132 yX7_writes ∈ zT := zTin (List.mem_of_getElem? (i := 841) (by decide +kernel)) rfl
theorem wl_X7_135 : Cond.methodLink RX7 135 yX7_placeOfClaim ∈ zT := zTin (List.mem_of_getElem? (i := 853) (by decide +kernel)) rfl
theorem wl_X7_138 : Cond.methodLink RX7 138 yX7_dropClaim ∈ zT := zTin (List.mem_of_getElem? (i := 857) (by decide +kernel)) rfl
theorem wl_X7_142 : Cond.methodLink RX7 142 yX7_serves ∈ zT := zTin (List.mem_of_getElem? (i := 865) (by decide +kernel)) rfl
theorem wl_X7_145 : Cond.methodLink RX7 145 yX7_loansOf ∈ zT := zTin (List.mem_of_getElem? (i := 873) (by decide +kernel)) rfl
theorem wl_X7_158 : Cond.methodLink RX7 158 yX7_sign ∈ zT := zTin (List.mem_of_getElem? (i := 901) (by decide +kernel)) rfl
theorem wl_X7_161 : Cond.methodLink RX7 161 yX7_number ∈ zT := zTin (List.mem_of_getElem? (i := 897) (by decide +kernel)) rfl
theorem wl_X7_164 : Cond.methodLink RX7 164 yX7_digit ∈ zT := zTin (List.mem_of_getElem? (i := 905) (by decide +kernel)) rfl
theorem wl_X7_171 : Cond.methodLink RX7 171 yX7_order ∈ zT := zTin (List.mem_of_getElem? (i := 893) (by decide +kernel)) rfl
theorem wl_X7_174 : Cond.methodLink RX7 174 yX7_does ∈ zT := zTin (List.mem_of_getElem? (i := 909) (by decide +kernel)) rfl
theorem wl_X7_177 : Cond.methodLink RX7 177 yX7_go ∈ zT := zTin (List.mem_of_getElem? (i := 889) (by decide +kernel)) rfl
theorem wl_X7_184 : Cond.methodLink RX7 184 yX7_agentsOf ∈ zT := zTin (List.mem_of_getElem? (i := 933) (by decide +kernel)) rfl
theorem wl_X7_187 : Cond.methodLink RX7 187 yX7_wholeOf ∈ zT := zTin (List.mem_of_getElem? (i := 937) (by decide +kernel)) rfl
theorem wl_X7_190 : Cond.methodLink RX7 190 yX7_sum ∈ zT := zTin (List.mem_of_getElem? (i := 945) (by decide +kernel)) rfl
theorem wl_X7_193 : Cond.methodLink RX7 193 yX7_wouldGather ∈ zT := zTin (List.mem_of_getElem? (i := 949) (by decide +kernel)) rfl
theorem wl_X7_196 : Cond.methodLink RX7 196 yX7_sumOfCells ∈ zT := zTin (List.mem_of_getElem? (i := 969) (by decide +kernel)) rfl
theorem wn_copy : Cond.native arraycopyName ∈ zT := zTin (List.mem_of_getElem? (i := 271) (by decide +kernel)) rfl
theorem ws_copy : Cond.static arraycopyName ∈ zT := zTin (List.mem_of_getElem? (i := 270) (by decide +kernel)) rfl
theorem wi_copy : Cond.initialized "java/lang/System" ∈ zT := zTin (List.mem_of_getElem? (i := 63) (by decide +kernel)) rfl
abbrev mX0_copyFrom : zM := (yX0_copyFrom, cX0_copyFrom, 2, none)
theorem wm_X0_copyFrom : zMv mX0_copyFrom 1 := ⟨zTin (List.mem_of_getElem? (i := 275) (by decide +kernel)) rfl, zTin (List.mem_of_getElem? (i := 57) (by decide +kernel)) rfl, by decide +kernel, by decide +kernel⟩
theorem wi_X0_copyFrom : zMi mX0_copyFrom := ⟨zTin (List.mem_of_getElem? (i := 273) (by decide +kernel)) rfl, zTin (List.mem_of_getElem? (i := 274) (by decide +kernel)) rfl⟩
abbrev mX0_size : zM := (yX0_size, cX0_size, 2, (some .int))
theorem wm_X0_size : zMv mX0_size 1 := ⟨zTin (List.mem_of_getElem? (i := 438) (by decide +kernel)) rfl, zTin (List.mem_of_getElem? (i := 57) (by decide +kernel)) rfl, by decide +kernel, by decide +kernel⟩
theorem wi_X0_size : zMi mX0_size := ⟨zTin (List.mem_of_getElem? (i := 436) (by decide +kernel)) rfl, zTin (List.mem_of_getElem? (i := 437) (by decide +kernel)) rfl⟩
abbrev mX0_sizeOfAll : zM := (yX0_sizeOfAll, cX0_sizeOfAll, 3, (some .int))
theorem wm_X0_sizeOfAll : zMv mX0_sizeOfAll 0 := ⟨zTin (List.mem_of_getElem? (i := 658) (by decide +kernel)) rfl, zTin (List.mem_of_getElem? (i := 57) (by decide +kernel)) rfl, by decide +kernel, by decide +kernel⟩
theorem wi_X0_sizeOfAll : zMi mX0_sizeOfAll := ⟨zTin (List.mem_of_getElem? (i := 656) (by decide +kernel)) rfl, zTin (List.mem_of_getElem? (i := 657) (by decide +kernel)) rfl⟩
abbrev mX0_first : zM := (yX0_first, cX0_first, 2, (some .int))
theorem wm_X0_first : zMv mX0_first 1 := ⟨zTin (List.mem_of_getElem? (i := 456) (by decide +kernel)) rfl, zTin (List.mem_of_getElem? (i := 57) (by decide +kernel)) rfl, by decide +kernel, by decide +kernel⟩
theorem wi_X0_first : zMi mX0_first := ⟨zTin (List.mem_of_getElem? (i := 454) (by decide +kernel)) rfl, zTin (List.mem_of_getElem? (i := 455) (by decide +kernel)) rfl⟩
abbrev mX0_placeOf : zM := (yX0_placeOf, cX0_placeOf, 4, (some .int))
theorem wm_X0_placeOf : zMv mX0_placeOf 2 := ⟨zTin (List.mem_of_getElem? (i := 426) (by decide +kernel)) rfl, zTin (List.mem_of_getElem? (i := 57) (by decide +kernel)) rfl, by decide +kernel, by decide +kernel⟩
theorem wi_X0_placeOf : zMi mX0_placeOf := ⟨zTin (List.mem_of_getElem? (i := 424) (by decide +kernel)) rfl, zTin (List.mem_of_getElem? (i := 425) (by decide +kernel)) rfl⟩
abbrev mX0_append : zM := (yX0_append, cX0_append, 3, none)
theorem wm_X0_append : zMv mX0_append 2 := ⟨zTin (List.mem_of_getElem? (i := 430) (by decide +kernel)) rfl, zTin (List.mem_of_getElem? (i := 57) (by decide +kernel)) rfl, by decide +kernel, by decide +kernel⟩
theorem wi_X0_append : zMi mX0_append := ⟨zTin (List.mem_of_getElem? (i := 428) (by decide +kernel)) rfl, zTin (List.mem_of_getElem? (i := 429) (by decide +kernel)) rfl⟩
abbrev mX0_remove : zM := (yX0_remove, cX0_remove, 5, none)
theorem wm_X0_remove : zMv mX0_remove 2 := ⟨zTin (List.mem_of_getElem? (i := 434) (by decide +kernel)) rfl, zTin (List.mem_of_getElem? (i := 57) (by decide +kernel)) rfl, by decide +kernel, by decide +kernel⟩
theorem wi_X0_remove : zMi mX0_remove := ⟨zTin (List.mem_of_getElem? (i := 432) (by decide +kernel)) rfl, zTin (List.mem_of_getElem? (i := 433) (by decide +kernel)) rfl⟩
abbrev mX1_run : zM := (yX1_run, cX1_run, 5, (some .int))
theorem wm_X1_run : zMv mX1_run 3 := ⟨zTin (List.mem_of_getElem? (i := 374) (by decide +kernel)) rfl, zTin (List.mem_of_getElem? (i := 60) (by decide +kernel)) rfl, by decide +kernel, by decide +kernel⟩
theorem wi_X1_run : zMi mX1_run := ⟨zTin (List.mem_of_getElem? (i := 372) (by decide +kernel)) rfl, zTin (List.mem_of_getElem? (i := 373) (by decide +kernel)) rfl⟩
abbrev mX1_gatherFor : zM := (yX1_gatherFor, cX1_gatherFor, 11, none)
theorem wm_X1_gatherFor : zMv mX1_gatherFor 5 := ⟨zTin (List.mem_of_getElem? (i := 381) (by decide +kernel)) rfl, zTin (List.mem_of_getElem? (i := 60) (by decide +kernel)) rfl, by decide +kernel, by decide +kernel⟩
theorem wi_X1_gatherFor : zMi mX1_gatherFor := ⟨zTin (List.mem_of_getElem? (i := 380) (by decide +kernel)) rfl, zTin (List.mem_of_getElem? (i := 3) (by decide +kernel)) rfl⟩
abbrev mX1_callIn : zM := (yX1_callIn, cX1_callIn, 10, none)
theorem wm_X1_callIn : zMv mX1_callIn 4 := ⟨zTin (List.mem_of_getElem? (i := 389) (by decide +kernel)) rfl, zTin (List.mem_of_getElem? (i := 60) (by decide +kernel)) rfl, by decide +kernel, by decide +kernel⟩
theorem wi_X1_callIn : zMi mX1_callIn := ⟨zTin (List.mem_of_getElem? (i := 388) (by decide +kernel)) rfl, zTin (List.mem_of_getElem? (i := 4) (by decide +kernel)) rfl⟩
abbrev mX2_size : zM := (yX2_size, cX2_size, 1, (some .int))
theorem wm_X2_size : zMv mX2_size 0 := ⟨zTin (List.mem_of_getElem? (i := 564) (by decide +kernel)) rfl, zTin (List.mem_of_getElem? (i := 59) (by decide +kernel)) rfl, by decide +kernel, by decide +kernel⟩
theorem wi_X2_size : zMi mX2_size := ⟨zTin (List.mem_of_getElem? (i := 562) (by decide +kernel)) rfl, zTin (List.mem_of_getElem? (i := 563) (by decide +kernel)) rfl⟩
abbrev mX2_open : zM := (yX2_open, cX2_open, 2, none)
theorem wm_X2_open : zMv mX2_open 1 := ⟨zTin (List.mem_of_getElem? (i := 264) (by decide +kernel)) rfl, zTin (List.mem_of_getElem? (i := 59) (by decide +kernel)) rfl, by decide +kernel, by decide +kernel⟩
theorem wi_X2_open : zMi mX2_open := ⟨zTin (List.mem_of_getElem? (i := 262) (by decide +kernel)) rfl, zTin (List.mem_of_getElem? (i := 263) (by decide +kernel)) rfl⟩
abbrev mX2_opened : zM := (yX2_opened, cX2_opened, 1, (some (.object "LentParts$State")))
theorem wm_X2_opened : zMv mX2_opened 0 := ⟨zTin (List.mem_of_getElem? (i := 319) (by decide +kernel)) rfl, zTin (List.mem_of_getElem? (i := 59) (by decide +kernel)) rfl, by decide +kernel, by decide +kernel⟩
theorem wi_X2_opened : zMi mX2_opened := ⟨zTin (List.mem_of_getElem? (i := 317) (by decide +kernel)) rfl, zTin (List.mem_of_getElem? (i := 318) (by decide +kernel)) rfl⟩
abbrev mX2_record : zM := (yX2_record, cX2_record, 1, none)
theorem wm_X2_record : zMv mX2_record 0 := ⟨zTin (List.mem_of_getElem? (i := 324) (by decide +kernel)) rfl, zTin (List.mem_of_getElem? (i := 59) (by decide +kernel)) rfl, by decide +kernel, by decide +kernel⟩
theorem wi_X2_record : zMi mX2_record := ⟨zTin (List.mem_of_getElem? (i := 322) (by decide +kernel)) rfl, zTin (List.mem_of_getElem? (i := 323) (by decide +kernel)) rfl⟩
abbrev mX2_takeLatest : zM := (yX2_takeLatest, cX2_takeLatest, 1, (some (.object "LentParts$State")))
theorem wm_X2_takeLatest : zMv mX2_takeLatest 0 := ⟨zTin (List.mem_of_getElem? (i := 560) (by decide +kernel)) rfl, zTin (List.mem_of_getElem? (i := 59) (by decide +kernel)) rfl, by decide +kernel, by decide +kernel⟩
theorem wi_X2_takeLatest : zMi mX2_takeLatest := ⟨zTin (List.mem_of_getElem? (i := 558) (by decide +kernel)) rfl, zTin (List.mem_of_getElem? (i := 559) (by decide +kernel)) rfl⟩
abbrev mX3_copyFrom : zM := (yX3_copyFrom, cX3_copyFrom, 2, none)
theorem wm_X3_copyFrom : zMv mX3_copyFrom 1 := ⟨zTin (List.mem_of_getElem? (i := 280) (by decide +kernel)) rfl, zTin (List.mem_of_getElem? (i := 58) (by decide +kernel)) rfl, by decide +kernel, by decide +kernel⟩
theorem wi_X3_copyFrom : zMi mX3_copyFrom := ⟨zTin (List.mem_of_getElem? (i := 278) (by decide +kernel)) rfl, zTin (List.mem_of_getElem? (i := 279) (by decide +kernel)) rfl⟩
abbrev mX3_hasRoom : zM := (yX3_hasRoom, cX3_hasRoom, 1, (some .boolean))
theorem wm_X3_hasRoom : zMv mX3_hasRoom 0 := ⟨zTin (List.mem_of_getElem? (i := 303) (by decide +kernel)) rfl, zTin (List.mem_of_getElem? (i := 58) (by decide +kernel)) rfl, by decide +kernel, by decide +kernel⟩
theorem wi_X3_hasRoom : zMi mX3_hasRoom := ⟨zTin (List.mem_of_getElem? (i := 301) (by decide +kernel)) rfl, zTin (List.mem_of_getElem? (i := 302) (by decide +kernel)) rfl⟩
abbrev mX3_append : zM := (yX3_append, cX3_append, 5, (some .int))
theorem wm_X3_append : zMv mX3_append 4 := ⟨zTin (List.mem_of_getElem? (i := 311) (by decide +kernel)) rfl, zTin (List.mem_of_getElem? (i := 58) (by decide +kernel)) rfl, by decide +kernel, by decide +kernel⟩
theorem wi_X3_append : zMi mX3_append := ⟨zTin (List.mem_of_getElem? (i := 309) (by decide +kernel)) rfl, zTin (List.mem_of_getElem? (i := 310) (by decide +kernel)) rfl⟩
abbrev mX3_remove : zM := (yX3_remove, cX3_remove, 3, none)
theorem wm_X3_remove : zMv mX3_remove 1 := ⟨zTin (List.mem_of_getElem? (i := 360) (by decide +kernel)) rfl, zTin (List.mem_of_getElem? (i := 58) (by decide +kernel)) rfl, by decide +kernel, by decide +kernel⟩
theorem wi_X3_remove : zMi mX3_remove := ⟨zTin (List.mem_of_getElem? (i := 358) (by decide +kernel)) rfl, zTin (List.mem_of_getElem? (i := 359) (by decide +kernel)) rfl⟩
abbrev mX3_rowOf : zM := (yX3_rowOf, cX3_rowOf, 3, (some .int))
theorem wm_X3_rowOf : zMv mX3_rowOf 1 := ⟨zTin (List.mem_of_getElem? (i := 348) (by decide +kernel)) rfl, zTin (List.mem_of_getElem? (i := 58) (by decide +kernel)) rfl, by decide +kernel, by decide +kernel⟩
theorem wi_X3_rowOf : zMi mX3_rowOf := ⟨zTin (List.mem_of_getElem? (i := 346) (by decide +kernel)) rfl, zTin (List.mem_of_getElem? (i := 347) (by decide +kernel)) rfl⟩
abbrev mX3_latestAhead : zM := (yX3_latestAhead, cX3_latestAhead, 5, (some .int))
theorem wm_X3_latestAhead : zMv mX3_latestAhead 3 := ⟨zTin (List.mem_of_getElem? (i := 385) (by decide +kernel)) rfl, zTin (List.mem_of_getElem? (i := 58) (by decide +kernel)) rfl, by decide +kernel, by decide +kernel⟩
theorem wi_X3_latestAhead : zMi mX3_latestAhead := ⟨zTin (List.mem_of_getElem? (i := 383) (by decide +kernel)) rfl, zTin (List.mem_of_getElem? (i := 384) (by decide +kernel)) rfl⟩
abbrev mX3_countOf : zM := (yX3_countOf, cX3_countOf, 4, (some .int))
theorem wm_X3_countOf : zMv mX3_countOf 1 := ⟨zTin (List.mem_of_getElem? (i := 468) (by decide +kernel)) rfl, zTin (List.mem_of_getElem? (i := 58) (by decide +kernel)) rfl, by decide +kernel, by decide +kernel⟩
theorem wi_X3_countOf : zMi mX3_countOf := ⟨zTin (List.mem_of_getElem? (i := 466) (by decide +kernel)) rfl, zTin (List.mem_of_getElem? (i := 467) (by decide +kernel)) rfl⟩
abbrev mX3_partsLent : zM := (yX3_partsLent, cX3_partsLent, 3, (some .int))
theorem wm_X3_partsLent : zMv mX3_partsLent 2 := ⟨zTin (List.mem_of_getElem? (i := 604) (by decide +kernel)) rfl, zTin (List.mem_of_getElem? (i := 58) (by decide +kernel)) rfl, by decide +kernel, by decide +kernel⟩
theorem wi_X3_partsLent : zMi mX3_partsLent := ⟨zTin (List.mem_of_getElem? (i := 602) (by decide +kernel)) rfl, zTin (List.mem_of_getElem? (i := 603) (by decide +kernel)) rfl⟩
abbrev mX3_partsBorrowed : zM := (yX3_partsBorrowed, cX3_partsBorrowed, 3, (some .int))
theorem wm_X3_partsBorrowed : zMv mX3_partsBorrowed 2 := ⟨zTin (List.mem_of_getElem? (i := 612) (by decide +kernel)) rfl, zTin (List.mem_of_getElem? (i := 58) (by decide +kernel)) rfl, by decide +kernel, by decide +kernel⟩
theorem wi_X3_partsBorrowed : zMi mX3_partsBorrowed := ⟨zTin (List.mem_of_getElem? (i := 610) (by decide +kernel)) rfl, zTin (List.mem_of_getElem? (i := 611) (by decide +kernel)) rfl⟩
abbrev mX3_sumParts : zM := (yX3_sumParts, cX3_sumParts, 6, (some .int))
theorem wm_X3_sumParts : zMv mX3_sumParts 3 := ⟨zTin (List.mem_of_getElem? (i := 608) (by decide +kernel)) rfl, zTin (List.mem_of_getElem? (i := 58) (by decide +kernel)) rfl, by decide +kernel, by decide +kernel⟩
theorem wi_X3_sumParts : zMi mX3_sumParts := ⟨zTin (List.mem_of_getElem? (i := 607) (by decide +kernel)) rfl, zTin (List.mem_of_getElem? (i := 20) (by decide +kernel)) rfl⟩
abbrev mX3_longestChain : zM := (yX3_longestChain, cX3_longestChain, 6, (some .int))
theorem wm_X3_longestChain : zMv mX3_longestChain 1 := ⟨zTin (List.mem_of_getElem? (i := 635) (by decide +kernel)) rfl, zTin (List.mem_of_getElem? (i := 58) (by decide +kernel)) rfl, by decide +kernel, by decide +kernel⟩
theorem wi_X3_longestChain : zMi mX3_longestChain := ⟨zTin (List.mem_of_getElem? (i := 633) (by decide +kernel)) rfl, zTin (List.mem_of_getElem? (i := 634) (by decide +kernel)) rfl⟩
abbrev mX3_linksOf : zM := (yX3_linksOf, cX3_linksOf, 5, (some .long))
theorem wm_X3_linksOf : zMv mX3_linksOf 1 := ⟨zTin (List.mem_of_getElem? (i := 639) (by decide +kernel)) rfl, zTin (List.mem_of_getElem? (i := 58) (by decide +kernel)) rfl, by decide +kernel, by decide +kernel⟩
theorem wi_X3_linksOf : zMi mX3_linksOf := ⟨zTin (List.mem_of_getElem? (i := 638) (by decide +kernel)) rfl, zTin (List.mem_of_getElem? (i := 22) (by decide +kernel)) rfl⟩
abbrev mX3_longestFrom : zM := (yX3_longestFrom, cX3_longestFrom, 9, (some .int))
theorem wm_X3_longestFrom : zMv mX3_longestFrom 4 := ⟨zTin (List.mem_of_getElem? (i := 642) (by decide +kernel)) rfl, zTin (List.mem_of_getElem? (i := 58) (by decide +kernel)) rfl, by decide +kernel, by decide +kernel⟩
theorem wt_X3_longestFrom : Cond.static yX3_longestFrom ∈ zT := zTin (List.mem_of_getElem? (i := 641) (by decide +kernel)) rfl
abbrev mX4_copyFrom : zM := (yX4_copyFrom, cX4_copyFrom, 2, none)
theorem wm_X4_copyFrom : zMv mX4_copyFrom 1 := ⟨zTin (List.mem_of_getElem? (i := 268) (by decide +kernel)) rfl, zTin (List.mem_of_getElem? (i := 56) (by decide +kernel)) rfl, by decide +kernel, by decide +kernel⟩
theorem wi_X4_copyFrom : zMi mX4_copyFrom := ⟨zTin (List.mem_of_getElem? (i := 266) (by decide +kernel)) rfl, zTin (List.mem_of_getElem? (i := 267) (by decide +kernel)) rfl⟩
abbrev mX4_heldBy : zM := (yX4_heldBy, cX4_heldBy, 3, (some .int))
theorem wm_X4_heldBy : zMv mX4_heldBy 2 := ⟨zTin (List.mem_of_getElem? (i := 295) (by decide +kernel)) rfl, zTin (List.mem_of_getElem? (i := 56) (by decide +kernel)) rfl, by decide +kernel, by decide +kernel⟩
theorem wi_X4_heldBy : zMi mX4_heldBy := ⟨zTin (List.mem_of_getElem? (i := 293) (by decide +kernel)) rfl, zTin (List.mem_of_getElem? (i := 294) (by decide +kernel)) rfl⟩
abbrev mX4_isHolding : zM := (yX4_isHolding, cX4_isHolding, 3, (some .boolean))
theorem wm_X4_isHolding : zMv mX4_isHolding 2 := ⟨zTin (List.mem_of_getElem? (i := 299) (by decide +kernel)) rfl, zTin (List.mem_of_getElem? (i := 56) (by decide +kernel)) rfl, by decide +kernel, by decide +kernel⟩
theorem wi_X4_isHolding : zMi mX4_isHolding := ⟨zTin (List.mem_of_getElem? (i := 297) (by decide +kernel)) rfl, zTin (List.mem_of_getElem? (i := 298) (by decide +kernel)) rfl⟩
abbrev mX4_makeLoan : zM := (yX4_makeLoan, cX4_makeLoan, 5, (some .int))
theorem wm_X4_makeLoan : zMv mX4_makeLoan 4 := ⟨zTin (List.mem_of_getElem? (i := 285) (by decide +kernel)) rfl, zTin (List.mem_of_getElem? (i := 56) (by decide +kernel)) rfl, by decide +kernel, by decide +kernel⟩
theorem wi_X4_makeLoan : zMi mX4_makeLoan := ⟨zTin (List.mem_of_getElem? (i := 283) (by decide +kernel)) rfl, zTin (List.mem_of_getElem? (i := 284) (by decide +kernel)) rfl⟩
abbrev mX4_makeHalfLoan : zM := (yX4_makeHalfLoan, cX4_makeHalfLoan, 6, (some .int))
theorem wm_X4_makeHalfLoan : zMv mX4_makeHalfLoan 3 := ⟨zTin (List.mem_of_getElem? (i := 335) (by decide +kernel)) rfl, zTin (List.mem_of_getElem? (i := 56) (by decide +kernel)) rfl, by decide +kernel, by decide +kernel⟩
theorem wi_X4_makeHalfLoan : zMi mX4_makeHalfLoan := ⟨zTin (List.mem_of_getElem? (i := 333) (by decide +kernel)) rfl, zTin (List.mem_of_getElem? (i := 334) (by decide +kernel)) rfl⟩
abbrev mX4_endLoan : zM := (yX4_endLoan, cX4_endLoan, 5, (some .int))
theorem wm_X4_endLoan : zMv mX4_endLoan 1 := ⟨zTin (List.mem_of_getElem? (i := 344) (by decide +kernel)) rfl, zTin (List.mem_of_getElem? (i := 56) (by decide +kernel)) rfl, by decide +kernel, by decide +kernel⟩
theorem wi_X4_endLoan : zMi mX4_endLoan := ⟨zTin (List.mem_of_getElem? (i := 342) (by decide +kernel)) rfl, zTin (List.mem_of_getElem? (i := 343) (by decide +kernel)) rfl⟩
abbrev mX4_canEndLoan : zM := (yX4_canEndLoan, cX4_canEndLoan, 4, (some .boolean))
theorem wm_X4_canEndLoan : zMv mX4_canEndLoan 1 := ⟨zTin (List.mem_of_getElem? (i := 352) (by decide +kernel)) rfl, zTin (List.mem_of_getElem? (i := 56) (by decide +kernel)) rfl, by decide +kernel, by decide +kernel⟩
theorem wi_X4_canEndLoan : zMi mX4_canEndLoan := ⟨zTin (List.mem_of_getElem? (i := 350) (by decide +kernel)) rfl, zTin (List.mem_of_getElem? (i := 351) (by decide +kernel)) rfl⟩
abbrev mX4_returnParts : zM := (yX4_returnParts, cX4_returnParts, 2, none)
theorem wm_X4_returnParts : zMv mX4_returnParts 1 := ⟨zTin (List.mem_of_getElem? (i := 356) (by decide +kernel)) rfl, zTin (List.mem_of_getElem? (i := 56) (by decide +kernel)) rfl, by decide +kernel, by decide +kernel⟩
theorem wi_X4_returnParts : zMi mX4_returnParts := ⟨zTin (List.mem_of_getElem? (i := 354) (by decide +kernel)) rfl, zTin (List.mem_of_getElem? (i := 355) (by decide +kernel)) rfl⟩
abbrev mX4_moveParts : zM := (yX4_moveParts, cX4_moveParts, 5, none)
theorem wm_X4_moveParts : zMv mX4_moveParts 4 := ⟨zTin (List.mem_of_getElem? (i := 307) (by decide +kernel)) rfl, zTin (List.mem_of_getElem? (i := 56) (by decide +kernel)) rfl, by decide +kernel, by decide +kernel⟩
theorem wi_X4_moveParts : zMi mX4_moveParts := ⟨zTin (List.mem_of_getElem? (i := 306) (by decide +kernel)) rfl, zTin (List.mem_of_getElem? (i := 0) (by decide +kernel)) rfl⟩
abbrev mX4_setHolding : zM := (yX4_setHolding, cX4_setHolding, 4, (some .int))
theorem wm_X4_setHolding : zMv mX4_setHolding 3 := ⟨zTin (List.mem_of_getElem? (i := 402) (by decide +kernel)) rfl, zTin (List.mem_of_getElem? (i := 56) (by decide +kernel)) rfl, by decide +kernel, by decide +kernel⟩
theorem wi_X4_setHolding : zMi mX4_setHolding := ⟨zTin (List.mem_of_getElem? (i := 400) (by decide +kernel)) rfl, zTin (List.mem_of_getElem? (i := 401) (by decide +kernel)) rfl⟩
abbrev mX4_writeValue : zM := (yX4_writeValue, cX4_writeValue, 4, (some .int))
theorem wm_X4_writeValue : zMv mX4_writeValue 3 := ⟨zTin (List.mem_of_getElem? (i := 410) (by decide +kernel)) rfl, zTin (List.mem_of_getElem? (i := 56) (by decide +kernel)) rfl, by decide +kernel, by decide +kernel⟩
theorem wi_X4_writeValue : zMi mX4_writeValue := ⟨zTin (List.mem_of_getElem? (i := 408) (by decide +kernel)) rfl, zTin (List.mem_of_getElem? (i := 409) (by decide +kernel)) rfl⟩
abbrev mX4_setClaim : zM := (yX4_setClaim, cX4_setClaim, 5, (some .int))
theorem wm_X4_setClaim : zMv mX4_setClaim 3 := ⟨zTin (List.mem_of_getElem? (i := 422) (by decide +kernel)) rfl, zTin (List.mem_of_getElem? (i := 56) (by decide +kernel)) rfl, by decide +kernel, by decide +kernel⟩
theorem wi_X4_setClaim : zMi mX4_setClaim := ⟨zTin (List.mem_of_getElem? (i := 420) (by decide +kernel)) rfl, zTin (List.mem_of_getElem? (i := 421) (by decide +kernel)) rfl⟩
abbrev mX4_grantFirstClaim : zM := (yX4_grantFirstClaim, cX4_grantFirstClaim, 4, (some .int))
theorem wm_X4_grantFirstClaim : zMv mX4_grantFirstClaim 1 := ⟨zTin (List.mem_of_getElem? (i := 452) (by decide +kernel)) rfl, zTin (List.mem_of_getElem? (i := 56) (by decide +kernel)) rfl, by decide +kernel, by decide +kernel⟩
theorem wi_X4_grantFirstClaim : zMi mX4_grantFirstClaim := ⟨zTin (List.mem_of_getElem? (i := 450) (by decide +kernel)) rfl, zTin (List.mem_of_getElem? (i := 451) (by decide +kernel)) rfl⟩
abbrev mX4_changeOwner : zM := (yX4_changeOwner, cX4_changeOwner, 4, (some .int))
theorem wm_X4_changeOwner : zMv mX4_changeOwner 2 := ⟨zTin (List.mem_of_getElem? (i := 464) (by decide +kernel)) rfl, zTin (List.mem_of_getElem? (i := 56) (by decide +kernel)) rfl, by decide +kernel, by decide +kernel⟩
theorem wi_X4_changeOwner : zMi mX4_changeOwner := ⟨zTin (List.mem_of_getElem? (i := 462) (by decide +kernel)) rfl, zTin (List.mem_of_getElem? (i := 463) (by decide +kernel)) rfl⟩
abbrev mX4_countReaders : zM := (yX4_countReaders, cX4_countReaders, 4, (some .int))
theorem wm_X4_countReaders : zMv mX4_countReaders 1 := ⟨zTin (List.mem_of_getElem? (i := 580) (by decide +kernel)) rfl, zTin (List.mem_of_getElem? (i := 56) (by decide +kernel)) rfl, by decide +kernel, by decide +kernel⟩
theorem wi_X4_countReaders : zMi mX4_countReaders := ⟨zTin (List.mem_of_getElem? (i := 578) (by decide +kernel)) rfl, zTin (List.mem_of_getElem? (i := 579) (by decide +kernel)) rfl⟩
abbrev mX4_holderOfWhole : zM := (yX4_holderOfWhole, cX4_holderOfWhole, 3, (some .int))
theorem wm_X4_holderOfWhole : zMv mX4_holderOfWhole 1 := ⟨zTin (List.mem_of_getElem? (i := 586) (by decide +kernel)) rfl, zTin (List.mem_of_getElem? (i := 56) (by decide +kernel)) rfl, by decide +kernel, by decide +kernel⟩
theorem wi_X4_holderOfWhole : zMi mX4_holderOfWhole := ⟨zTin (List.mem_of_getElem? (i := 584) (by decide +kernel)) rfl, zTin (List.mem_of_getElem? (i := 585) (by decide +kernel)) rfl⟩
abbrev mX4_countWholeCells : zM := (yX4_countWholeCells, cX4_countWholeCells, 3, (some .int))
theorem wm_X4_countWholeCells : zMv mX4_countWholeCells 0 := ⟨zTin (List.mem_of_getElem? (i := 653) (by decide +kernel)) rfl, zTin (List.mem_of_getElem? (i := 56) (by decide +kernel)) rfl, by decide +kernel, by decide +kernel⟩
theorem wi_X4_countWholeCells : zMi mX4_countWholeCells := ⟨zTin (List.mem_of_getElem? (i := 651) (by decide +kernel)) rfl, zTin (List.mem_of_getElem? (i := 652) (by decide +kernel)) rfl⟩
abbrev mX4_countHolding : zM := (yX4_countHolding, cX4_countHolding, 2, (some .int))
theorem wm_X4_countHolding : zMv mX4_countHolding 1 := ⟨zTin (List.mem_of_getElem? (i := 590) (by decide +kernel)) rfl, zTin (List.mem_of_getElem? (i := 56) (by decide +kernel)) rfl, by decide +kernel, by decide +kernel⟩
theorem wi_X4_countHolding : zMi mX4_countHolding := ⟨zTin (List.mem_of_getElem? (i := 588) (by decide +kernel)) rfl, zTin (List.mem_of_getElem? (i := 589) (by decide +kernel)) rfl⟩
abbrev mX4_countAllHolding : zM := (yX4_countAllHolding, cX4_countAllHolding, 3, (some .int))
theorem wm_X4_countAllHolding : zMv mX4_countAllHolding 0 := ⟨zTin (List.mem_of_getElem? (i := 662) (by decide +kernel)) rfl, zTin (List.mem_of_getElem? (i := 56) (by decide +kernel)) rfl, by decide +kernel, by decide +kernel⟩
theorem wi_X4_countAllHolding : zMi mX4_countAllHolding := ⟨zTin (List.mem_of_getElem? (i := 660) (by decide +kernel)) rfl, zTin (List.mem_of_getElem? (i := 661) (by decide +kernel)) rfl⟩
abbrev mX5_size : zM := (yX5_size, cX5_size, 1, (some .int))
theorem wm_X5_size : zMv mX5_size 0 := ⟨zTin (List.mem_of_getElem? (i := 667) (by decide +kernel)) rfl, zTin (List.mem_of_getElem? (i := 61) (by decide +kernel)) rfl, by decide +kernel, by decide +kernel⟩
theorem wi_X5_size : zMi mX5_size := ⟨zTin (List.mem_of_getElem? (i := 665) (by decide +kernel)) rfl, zTin (List.mem_of_getElem? (i := 666) (by decide +kernel)) rfl⟩
abbrev mX5_append : zM := (yX5_append, cX5_append, 2, (some .int))
theorem wm_X5_append : zMv mX5_append 1 := ⟨zTin (List.mem_of_getElem? (i := 476) (by decide +kernel)) rfl, zTin (List.mem_of_getElem? (i := 61) (by decide +kernel)) rfl, by decide +kernel, by decide +kernel⟩
theorem wi_X5_append : zMi mX5_append := ⟨zTin (List.mem_of_getElem? (i := 474) (by decide +kernel)) rfl, zTin (List.mem_of_getElem? (i := 475) (by decide +kernel)) rfl⟩
abbrev mX5_empty : zM := (yX5_empty, cX5_empty, 2, (some .int))
theorem wm_X5_empty : zMv mX5_empty 0 := ⟨zTin (List.mem_of_getElem? (i := 484) (by decide +kernel)) rfl, zTin (List.mem_of_getElem? (i := 61) (by decide +kernel)) rfl, by decide +kernel, by decide +kernel⟩
theorem wi_X5_empty : zMi mX5_empty := ⟨zTin (List.mem_of_getElem? (i := 482) (by decide +kernel)) rfl, zTin (List.mem_of_getElem? (i := 483) (by decide +kernel)) rfl⟩
abbrev mX5_findFault : zM := (yX5_findFault, cX5_findFault, 3, (some .int))
theorem wm_X5_findFault : zMv mX5_findFault 0 := ⟨zTin (List.mem_of_getElem? (i := 492) (by decide +kernel)) rfl, zTin (List.mem_of_getElem? (i := 61) (by decide +kernel)) rfl, by decide +kernel, by decide +kernel⟩
theorem wi_X5_findFault : zMi mX5_findFault := ⟨zTin (List.mem_of_getElem? (i := 490) (by decide +kernel)) rfl, zTin (List.mem_of_getElem? (i := 491) (by decide +kernel)) rfl⟩
abbrev mX5_readAct : zM := (yX5_readAct, cX5_readAct, 2, (some .boolean))
theorem wm_X5_readAct : zMv mX5_readAct 0 := ⟨zTin (List.mem_of_getElem? (i := 496) (by decide +kernel)) rfl, zTin (List.mem_of_getElem? (i := 61) (by decide +kernel)) rfl, by decide +kernel, by decide +kernel⟩
theorem wi_X5_readAct : zMi mX5_readAct := ⟨zTin (List.mem_of_getElem? (i := 495) (by decide +kernel)) rfl, zTin (List.mem_of_getElem? (i := 6) (by decide +kernel)) rfl⟩
abbrev mX5_readForm : zM := (yX5_readForm, cX5_readForm, 2, (some .boolean))
theorem wm_X5_readForm : zMv mX5_readForm 1 := ⟨zTin (List.mem_of_getElem? (i := 500) (by decide +kernel)) rfl, zTin (List.mem_of_getElem? (i := 61) (by decide +kernel)) rfl, by decide +kernel, by decide +kernel⟩
theorem wi_X5_readForm : zMi mX5_readForm := ⟨zTin (List.mem_of_getElem? (i := 499) (by decide +kernel)) rfl, zTin (List.mem_of_getElem? (i := 7) (by decide +kernel)) rfl⟩
abbrev mX5_readLoan : zM := (yX5_readLoan, cX5_readLoan, 2, (some .boolean))
theorem wm_X5_readLoan : zMv mX5_readLoan 1 := ⟨zTin (List.mem_of_getElem? (i := 508) (by decide +kernel)) rfl, zTin (List.mem_of_getElem? (i := 61) (by decide +kernel)) rfl, by decide +kernel, by decide +kernel⟩
theorem wi_X5_readLoan : zMi mX5_readLoan := ⟨zTin (List.mem_of_getElem? (i := 507) (by decide +kernel)) rfl, zTin (List.mem_of_getElem? (i := 9) (by decide +kernel)) rfl⟩
abbrev mX5_readReturn : zM := (yX5_readReturn, cX5_readReturn, 2, (some .boolean))
theorem wm_X5_readReturn : zMv mX5_readReturn 1 := ⟨zTin (List.mem_of_getElem? (i := 532) (by decide +kernel)) rfl, zTin (List.mem_of_getElem? (i := 61) (by decide +kernel)) rfl, by decide +kernel, by decide +kernel⟩
theorem wi_X5_readReturn : zMi mX5_readReturn := ⟨zTin (List.mem_of_getElem? (i := 531) (by decide +kernel)) rfl, zTin (List.mem_of_getElem? (i := 15) (by decide +kernel)) rfl⟩
abbrev mX5_readWrite : zM := (yX5_readWrite, cX5_readWrite, 2, (some .boolean))
theorem wm_X5_readWrite : zMv mX5_readWrite 1 := ⟨zTin (List.mem_of_getElem? (i := 536) (by decide +kernel)) rfl, zTin (List.mem_of_getElem? (i := 61) (by decide +kernel)) rfl, by decide +kernel, by decide +kernel⟩
theorem wi_X5_readWrite : zMi mX5_readWrite := ⟨zTin (List.mem_of_getElem? (i := 535) (by decide +kernel)) rfl, zTin (List.mem_of_getElem? (i := 16) (by decide +kernel)) rfl⟩
abbrev mX5_readGathering : zM := (yX5_readGathering, cX5_readGathering, 2, (some .boolean))
theorem wm_X5_readGathering : zMv mX5_readGathering 1 := ⟨zTin (List.mem_of_getElem? (i := 540) (by decide +kernel)) rfl, zTin (List.mem_of_getElem? (i := 61) (by decide +kernel)) rfl, by decide +kernel, by decide +kernel⟩
theorem wi_X5_readGathering : zMi mX5_readGathering := ⟨zTin (List.mem_of_getElem? (i := 539) (by decide +kernel)) rfl, zTin (List.mem_of_getElem? (i := 17) (by decide +kernel)) rfl⟩
abbrev mX5_readPair : zM := (yX5_readPair, cX5_readPair, 2, (some .boolean))
theorem wm_X5_readPair : zMv mX5_readPair 1 := ⟨zTin (List.mem_of_getElem? (i := 524) (by decide +kernel)) rfl, zTin (List.mem_of_getElem? (i := 61) (by decide +kernel)) rfl, by decide +kernel, by decide +kernel⟩
theorem wi_X5_readPair : zMi mX5_readPair := ⟨zTin (List.mem_of_getElem? (i := 523) (by decide +kernel)) rfl, zTin (List.mem_of_getElem? (i := 13) (by decide +kernel)) rfl⟩
abbrev mX5_signHere : zM := (yX5_signHere, cX5_signHere, 1, (some .int))
theorem wm_X5_signHere : zMv mX5_signHere 0 := ⟨zTin (List.mem_of_getElem? (i := 504) (by decide +kernel)) rfl, zTin (List.mem_of_getElem? (i := 61) (by decide +kernel)) rfl, by decide +kernel, by decide +kernel⟩
theorem wi_X5_signHere : zMi mX5_signHere := ⟨zTin (List.mem_of_getElem? (i := 503) (by decide +kernel)) rfl, zTin (List.mem_of_getElem? (i := 8) (by decide +kernel)) rfl⟩
abbrev mX5_digitHere : zM := (yX5_digitHere, cX5_digitHere, 2, (some .int))
theorem wm_X5_digitHere : zMv mX5_digitHere 0 := ⟨zTin (List.mem_of_getElem? (i := 520) (by decide +kernel)) rfl, zTin (List.mem_of_getElem? (i := 61) (by decide +kernel)) rfl, by decide +kernel, by decide +kernel⟩
theorem wi_X5_digitHere : zMi mX5_digitHere := ⟨zTin (List.mem_of_getElem? (i := 519) (by decide +kernel)) rfl, zTin (List.mem_of_getElem? (i := 12) (by decide +kernel)) rfl⟩
abbrev mX5_readSign : zM := (yX5_readSign, cX5_readSign, 2, (some .boolean))
theorem wm_X5_readSign : zMv mX5_readSign 1 := ⟨zTin (List.mem_of_getElem? (i := 512) (by decide +kernel)) rfl, zTin (List.mem_of_getElem? (i := 61) (by decide +kernel)) rfl, by decide +kernel, by decide +kernel⟩
theorem wi_X5_readSign : zMi mX5_readSign := ⟨zTin (List.mem_of_getElem? (i := 511) (by decide +kernel)) rfl, zTin (List.mem_of_getElem? (i := 10) (by decide +kernel)) rfl⟩
abbrev mX5_readDigit : zM := (yX5_readDigit, cX5_readDigit, 4, (some .boolean))
theorem wm_X5_readDigit : zMv mX5_readDigit 2 := ⟨zTin (List.mem_of_getElem? (i := 516) (by decide +kernel)) rfl, zTin (List.mem_of_getElem? (i := 61) (by decide +kernel)) rfl, by decide +kernel, by decide +kernel⟩
theorem wi_X5_readDigit : zMi mX5_readDigit := ⟨zTin (List.mem_of_getElem? (i := 515) (by decide +kernel)) rfl, zTin (List.mem_of_getElem? (i := 11) (by decide +kernel)) rfl⟩
abbrev mX5_readNumber : zM := (yX5_readNumber, cX5_readNumber, 7, (some .boolean))
theorem wm_X5_readNumber : zMv mX5_readNumber 3 := ⟨zTin (List.mem_of_getElem? (i := 528) (by decide +kernel)) rfl, zTin (List.mem_of_getElem? (i := 61) (by decide +kernel)) rfl, by decide +kernel, by decide +kernel⟩
theorem wi_X5_readNumber : zMi mX5_readNumber := ⟨zTin (List.mem_of_getElem? (i := 527) (by decide +kernel)) rfl, zTin (List.mem_of_getElem? (i := 14) (by decide +kernel)) rfl⟩
abbrev mX6_lend : zM := (yX6_lend, cX6_lend, 5, (some .int))
theorem wm_X6_lend : zMv mX6_lend 4 := ⟨zTin (List.mem_of_getElem? (i := 260) (by decide +kernel)) rfl, zTin (List.mem_of_getElem? (i := 55) (by decide +kernel)) rfl, by decide +kernel, by decide +kernel⟩
theorem wi_X6_lend : zMi mX6_lend := ⟨zTin (List.mem_of_getElem? (i := 258) (by decide +kernel)) rfl, zTin (List.mem_of_getElem? (i := 259) (by decide +kernel)) rfl⟩
abbrev mX6_half : zM := (yX6_half, cX6_half, 4, (some .int))
theorem wm_X6_half : zMv mX6_half 3 := ⟨zTin (List.mem_of_getElem? (i := 331) (by decide +kernel)) rfl, zTin (List.mem_of_getElem? (i := 55) (by decide +kernel)) rfl, by decide +kernel, by decide +kernel⟩
theorem wi_X6_half : zMi mX6_half := ⟨zTin (List.mem_of_getElem? (i := 329) (by decide +kernel)) rfl, zTin (List.mem_of_getElem? (i := 330) (by decide +kernel)) rfl⟩
abbrev mX6_giveBack : zM := (yX6_giveBack, cX6_giveBack, 2, (some .int))
theorem wm_X6_giveBack : zMv mX6_giveBack 1 := ⟨zTin (List.mem_of_getElem? (i := 340) (by decide +kernel)) rfl, zTin (List.mem_of_getElem? (i := 55) (by decide +kernel)) rfl, by decide +kernel, by decide +kernel⟩
theorem wi_X6_giveBack : zMi mX6_giveBack := ⟨zTin (List.mem_of_getElem? (i := 338) (by decide +kernel)) rfl, zTin (List.mem_of_getElem? (i := 339) (by decide +kernel)) rfl⟩
abbrev mX6_gather : zM := (yX6_gather, cX6_gather, 3, (some .int))
theorem wm_X6_gather : zMv mX6_gather 2 := ⟨zTin (List.mem_of_getElem? (i := 364) (by decide +kernel)) rfl, zTin (List.mem_of_getElem? (i := 55) (by decide +kernel)) rfl, by decide +kernel, by decide +kernel⟩
theorem wi_X6_gather : zMi mX6_gather := ⟨zTin (List.mem_of_getElem? (i := 362) (by decide +kernel)) rfl, zTin (List.mem_of_getElem? (i := 363) (by decide +kernel)) rfl⟩
abbrev mX6_hold : zM := (yX6_hold, cX6_hold, 4, (some .int))
theorem wm_X6_hold : zMv mX6_hold 3 := ⟨zTin (List.mem_of_getElem? (i := 398) (by decide +kernel)) rfl, zTin (List.mem_of_getElem? (i := 55) (by decide +kernel)) rfl, by decide +kernel, by decide +kernel⟩
theorem wi_X6_hold : zMi mX6_hold := ⟨zTin (List.mem_of_getElem? (i := 396) (by decide +kernel)) rfl, zTin (List.mem_of_getElem? (i := 397) (by decide +kernel)) rfl⟩
abbrev mX6_write : zM := (yX6_write, cX6_write, 4, (some .int))
theorem wm_X6_write : zMv mX6_write 3 := ⟨zTin (List.mem_of_getElem? (i := 406) (by decide +kernel)) rfl, zTin (List.mem_of_getElem? (i := 55) (by decide +kernel)) rfl, by decide +kernel, by decide +kernel⟩
theorem wi_X6_write : zMi mX6_write := ⟨zTin (List.mem_of_getElem? (i := 404) (by decide +kernel)) rfl, zTin (List.mem_of_getElem? (i := 405) (by decide +kernel)) rfl⟩
abbrev mX6_read : zM := (yX6_read, cX6_read, 3, (some .int))
theorem wm_X6_read : zMv mX6_read 2 := ⟨zTin (List.mem_of_getElem? (i := 414) (by decide +kernel)) rfl, zTin (List.mem_of_getElem? (i := 55) (by decide +kernel)) rfl, by decide +kernel, by decide +kernel⟩
theorem wi_X6_read : zMi mX6_read := ⟨zTin (List.mem_of_getElem? (i := 412) (by decide +kernel)) rfl, zTin (List.mem_of_getElem? (i := 413) (by decide +kernel)) rfl⟩
abbrev mX6_claim : zM := (yX6_claim, cX6_claim, 4, (some .int))
theorem wm_X6_claim : zMv mX6_claim 3 := ⟨zTin (List.mem_of_getElem? (i := 418) (by decide +kernel)) rfl, zTin (List.mem_of_getElem? (i := 55) (by decide +kernel)) rfl, by decide +kernel, by decide +kernel⟩
theorem wi_X6_claim : zMi mX6_claim := ⟨zTin (List.mem_of_getElem? (i := 416) (by decide +kernel)) rfl, zTin (List.mem_of_getElem? (i := 417) (by decide +kernel)) rfl⟩
abbrev mX6_serve : zM := (yX6_serve, cX6_serve, 2, (some .int))
theorem wm_X6_serve : zMv mX6_serve 1 := ⟨zTin (List.mem_of_getElem? (i := 442) (by decide +kernel)) rfl, zTin (List.mem_of_getElem? (i := 55) (by decide +kernel)) rfl, by decide +kernel, by decide +kernel⟩
theorem wi_X6_serve : zMi mX6_serve := ⟨zTin (List.mem_of_getElem? (i := 440) (by decide +kernel)) rfl, zTin (List.mem_of_getElem? (i := 441) (by decide +kernel)) rfl⟩
abbrev mX6_handOver : zM := (yX6_handOver, cX6_handOver, 3, (some .int))
theorem wm_X6_handOver : zMv mX6_handOver 2 := ⟨zTin (List.mem_of_getElem? (i := 460) (by decide +kernel)) rfl, zTin (List.mem_of_getElem? (i := 55) (by decide +kernel)) rfl, by decide +kernel, by decide +kernel⟩
theorem wi_X6_handOver : zMi mX6_handOver := ⟨zTin (List.mem_of_getElem? (i := 458) (by decide +kernel)) rfl, zTin (List.mem_of_getElem? (i := 459) (by decide +kernel)) rfl⟩
abbrev mX6_type : zM := (yX6_type, cX6_type, 2, (some .int))
theorem wm_X6_type : zMv mX6_type 1 := ⟨zTin (List.mem_of_getElem? (i := 472) (by decide +kernel)) rfl, zTin (List.mem_of_getElem? (i := 55) (by decide +kernel)) rfl, by decide +kernel, by decide +kernel⟩
theorem wi_X6_type : zMi mX6_type := ⟨zTin (List.mem_of_getElem? (i := 470) (by decide +kernel)) rfl, zTin (List.mem_of_getElem? (i := 471) (by decide +kernel)) rfl⟩
abbrev mX6_clearText : zM := (yX6_clearText, cX6_clearText, 1, (some .int))
theorem wm_X6_clearText : zMv mX6_clearText 0 := ⟨zTin (List.mem_of_getElem? (i := 480) (by decide +kernel)) rfl, zTin (List.mem_of_getElem? (i := 55) (by decide +kernel)) rfl, by decide +kernel, by decide +kernel⟩
theorem wi_X6_clearText : zMi mX6_clearText := ⟨zTin (List.mem_of_getElem? (i := 478) (by decide +kernel)) rfl, zTin (List.mem_of_getElem? (i := 479) (by decide +kernel)) rfl⟩
abbrev mX6_perform : zM := (yX6_perform, cX6_perform, 2, (some .int))
theorem wm_X6_perform : zMv mX6_perform 0 := ⟨zTin (List.mem_of_getElem? (i := 488) (by decide +kernel)) rfl, zTin (List.mem_of_getElem? (i := 55) (by decide +kernel)) rfl, by decide +kernel, by decide +kernel⟩
theorem wi_X6_perform : zMi mX6_perform := ⟨zTin (List.mem_of_getElem? (i := 486) (by decide +kernel)) rfl, zTin (List.mem_of_getElem? (i := 487) (by decide +kernel)) rfl⟩
abbrev mX6_stop : zM := (yX6_stop, cX6_stop, 2, (some .int))
theorem wm_X6_stop : zMv mX6_stop 1 := ⟨zTin (List.mem_of_getElem? (i := 552) (by decide +kernel)) rfl, zTin (List.mem_of_getElem? (i := 55) (by decide +kernel)) rfl, by decide +kernel, by decide +kernel⟩
theorem wi_X6_stop : zMi mX6_stop := ⟨zTin (List.mem_of_getElem? (i := 550) (by decide +kernel)) rfl, zTin (List.mem_of_getElem? (i := 551) (by decide +kernel)) rfl⟩
abbrev mX6_undo : zM := (yX6_undo, cX6_undo, 2, (some .int))
theorem wm_X6_undo : zMv mX6_undo 0 := ⟨zTin (List.mem_of_getElem? (i := 556) (by decide +kernel)) rfl, zTin (List.mem_of_getElem? (i := 55) (by decide +kernel)) rfl, by decide +kernel, by decide +kernel⟩
theorem wi_X6_undo : zMi mX6_undo := ⟨zTin (List.mem_of_getElem? (i := 554) (by decide +kernel)) rfl, zTin (List.mem_of_getElem? (i := 555) (by decide +kernel)) rfl⟩
abbrev mX6_keep : zM := (yX6_keep, cX6_keep, 1, (some .int))
theorem wm_X6_keep : zMv mX6_keep 0 := ⟨zTin (List.mem_of_getElem? (i := 568) (by decide +kernel)) rfl, zTin (List.mem_of_getElem? (i := 55) (by decide +kernel)) rfl, by decide +kernel, by decide +kernel⟩
theorem wi_X6_keep : zMi mX6_keep := ⟨zTin (List.mem_of_getElem? (i := 566) (by decide +kernel)) rfl, zTin (List.mem_of_getElem? (i := 567) (by decide +kernel)) rfl⟩
abbrev mX6_restore : zM := (yX6_restore, cX6_restore, 1, (some .int))
theorem wm_X6_restore : zMv mX6_restore 0 := ⟨zTin (List.mem_of_getElem? (i := 572) (by decide +kernel)) rfl, zTin (List.mem_of_getElem? (i := 55) (by decide +kernel)) rfl, by decide +kernel, by decide +kernel⟩
theorem wi_X6_restore : zMi mX6_restore := ⟨zTin (List.mem_of_getElem? (i := 570) (by decide +kernel)) rfl, zTin (List.mem_of_getElem? (i := 571) (by decide +kernel)) rfl⟩
abbrev mX6_cell : zM := (yX6_cell, cX6_cell, 3, (some .int))
theorem wm_X6_cell : zMv mX6_cell 2 := ⟨zTin (List.mem_of_getElem? (i := 576) (by decide +kernel)) rfl, zTin (List.mem_of_getElem? (i := 55) (by decide +kernel)) rfl, by decide +kernel, by decide +kernel⟩
theorem wi_X6_cell : zMi mX6_cell := ⟨zTin (List.mem_of_getElem? (i := 574) (by decide +kernel)) rfl, zTin (List.mem_of_getElem? (i := 575) (by decide +kernel)) rfl⟩
abbrev mX6_part : zM := (yX6_part, cX6_part, 4, (some .int))
theorem wm_X6_part : zMv mX6_part 3 := ⟨zTin (List.mem_of_getElem? (i := 600) (by decide +kernel)) rfl, zTin (List.mem_of_getElem? (i := 55) (by decide +kernel)) rfl, by decide +kernel, by decide +kernel⟩
theorem wi_X6_part : zMi mX6_part := ⟨zTin (List.mem_of_getElem? (i := 598) (by decide +kernel)) rfl, zTin (List.mem_of_getElem? (i := 599) (by decide +kernel)) rfl⟩
abbrev mX6_loan : zM := (yX6_loan, cX6_loan, 4, (some .int))
theorem wm_X6_loan : zMv mX6_loan 2 := ⟨zTin (List.mem_of_getElem? (i := 621) (by decide +kernel)) rfl, zTin (List.mem_of_getElem? (i := 55) (by decide +kernel)) rfl, by decide +kernel, by decide +kernel⟩
theorem wi_X6_loan : zMi mX6_loan := ⟨zTin (List.mem_of_getElem? (i := 619) (by decide +kernel)) rfl, zTin (List.mem_of_getElem? (i := 620) (by decide +kernel)) rfl⟩
abbrev mX6_reason : zM := (yX6_reason, cX6_reason, 3, (some .int))
theorem wm_X6_reason : zMv mX6_reason 2 := ⟨zTin (List.mem_of_getElem? (i := 627) (by decide +kernel)) rfl, zTin (List.mem_of_getElem? (i := 55) (by decide +kernel)) rfl, by decide +kernel, by decide +kernel⟩
theorem wi_X6_reason : zMi mX6_reason := ⟨zTin (List.mem_of_getElem? (i := 625) (by decide +kernel)) rfl, zTin (List.mem_of_getElem? (i := 626) (by decide +kernel)) rfl⟩
abbrev mX6_chain : zM := (yX6_chain, cX6_chain, 2, (some .int))
theorem wm_X6_chain : zMv mX6_chain 1 := ⟨zTin (List.mem_of_getElem? (i := 631) (by decide +kernel)) rfl, zTin (List.mem_of_getElem? (i := 55) (by decide +kernel)) rfl, by decide +kernel, by decide +kernel⟩
theorem wi_X6_chain : zMi mX6_chain := ⟨zTin (List.mem_of_getElem? (i := 629) (by decide +kernel)) rfl, zTin (List.mem_of_getElem? (i := 630) (by decide +kernel)) rfl⟩
abbrev mX6_count : zM := (yX6_count, cX6_count, 2, (some .int))
theorem wm_X6_count : zMv mX6_count 1 := ⟨zTin (List.mem_of_getElem? (i := 649) (by decide +kernel)) rfl, zTin (List.mem_of_getElem? (i := 55) (by decide +kernel)) rfl, by decide +kernel, by decide +kernel⟩
theorem wi_X6_count : zMi mX6_count := ⟨zTin (List.mem_of_getElem? (i := 647) (by decide +kernel)) rfl, zTin (List.mem_of_getElem? (i := 648) (by decide +kernel)) rfl⟩
abbrev mX6_close : zM := (yX6_close, cX6_close, 2, (some .int))
theorem wm_X6_close : zMv mX6_close 1 := ⟨zTin (List.mem_of_getElem? (i := 315) (by decide +kernel)) rfl, zTin (List.mem_of_getElem? (i := 55) (by decide +kernel)) rfl, by decide +kernel, by decide +kernel⟩
theorem wi_X6_close : zMi mX6_close := ⟨zTin (List.mem_of_getElem? (i := 314) (by decide +kernel)) rfl, zTin (List.mem_of_getElem? (i := 1) (by decide +kernel)) rfl⟩
abbrev mX6_gatherCell : zM := (yX6_gatherCell, cX6_gatherCell, 4, (some .int))
theorem wm_X6_gatherCell : zMv mX6_gatherCell 2 := ⟨zTin (List.mem_of_getElem? (i := 368) (by decide +kernel)) rfl, zTin (List.mem_of_getElem? (i := 55) (by decide +kernel)) rfl, by decide +kernel, by decide +kernel⟩
theorem wi_X6_gatherCell : zMi mX6_gatherCell := ⟨zTin (List.mem_of_getElem? (i := 367) (by decide +kernel)) rfl, zTin (List.mem_of_getElem? (i := 2) (by decide +kernel)) rfl⟩
abbrev mX6_heldAfterGathering : zM := (yX6_heldAfterGathering, cX6_heldAfterGathering, 3, (some .int))
theorem wm_X6_heldAfterGathering : zMv mX6_heldAfterGathering 2 := ⟨zTin (List.mem_of_getElem? (i := 617) (by decide +kernel)) rfl, zTin (List.mem_of_getElem? (i := 55) (by decide +kernel)) rfl, by decide +kernel, by decide +kernel⟩
theorem wi_X6_heldAfterGathering : zMi mX6_heldAfterGathering := ⟨zTin (List.mem_of_getElem? (i := 616) (by decide +kernel)) rfl, zTin (List.mem_of_getElem? (i := 21) (by decide +kernel)) rfl⟩
abbrev mX6_serveClaims : zM := (yX6_serveClaims, cX6_serveClaims, 4, (some .int))
theorem wm_X6_serveClaims : zMv mX6_serveClaims 1 := ⟨zTin (List.mem_of_getElem? (i := 446) (by decide +kernel)) rfl, zTin (List.mem_of_getElem? (i := 55) (by decide +kernel)) rfl, by decide +kernel, by decide +kernel⟩
theorem wi_X6_serveClaims : zMi mX6_serveClaims := ⟨zTin (List.mem_of_getElem? (i := 445) (by decide +kernel)) rfl, zTin (List.mem_of_getElem? (i := 5) (by decide +kernel)) rfl⟩
abbrev mX6_performActs : zM := (yX6_performActs, cX6_performActs, 3, (some .int))
theorem wm_X6_performActs : zMv mX6_performActs 0 := ⟨zTin (List.mem_of_getElem? (i := 544) (by decide +kernel)) rfl, zTin (List.mem_of_getElem? (i := 55) (by decide +kernel)) rfl, by decide +kernel, by decide +kernel⟩
theorem wi_X6_performActs : zMi mX6_performActs := ⟨zTin (List.mem_of_getElem? (i := 543) (by decide +kernel)) rfl, zTin (List.mem_of_getElem? (i := 18) (by decide +kernel)) rfl⟩
abbrev mX6_performAct : zM := (yX6_performAct, cX6_performAct, 3, (some .int))
theorem wm_X6_performAct : zMv mX6_performAct 1 := ⟨zTin (List.mem_of_getElem? (i := 548) (by decide +kernel)) rfl, zTin (List.mem_of_getElem? (i := 55) (by decide +kernel)) rfl, by decide +kernel, by decide +kernel⟩
theorem wi_X6_performAct : zMi mX6_performAct := ⟨zTin (List.mem_of_getElem? (i := 547) (by decide +kernel)) rfl, zTin (List.mem_of_getElem? (i := 19) (by decide +kernel)) rfl⟩
abbrev mX6_isAgent : zM := (yX6_isAgent, cX6_isAgent, 1, (some .boolean))
theorem wm_X6_isAgent : zMv mX6_isAgent 1 := ⟨zTin (List.mem_of_getElem? (i := 288) (by decide +kernel)) rfl, zTin (List.mem_of_getElem? (i := 55) (by decide +kernel)) rfl, by decide +kernel, by decide +kernel⟩
theorem wt_X6_isAgent : Cond.static yX6_isAgent ∈ zT := zTin (List.mem_of_getElem? (i := 287) (by decide +kernel)) rfl
abbrev mX6_isCell : zM := (yX6_isCell, cX6_isCell, 1, (some .boolean))
theorem wm_X6_isCell : zMv mX6_isCell 1 := ⟨zTin (List.mem_of_getElem? (i := 291) (by decide +kernel)) rfl, zTin (List.mem_of_getElem? (i := 55) (by decide +kernel)) rfl, by decide +kernel, by decide +kernel⟩
theorem wt_X6_isCell : Cond.static yX6_isCell ∈ zT := zTin (List.mem_of_getElem? (i := 290) (by decide +kernel)) rfl
abbrev mX7_in : zM := (yX7_in, cX7_in, 3, (some .boolean))
theorem wm_X7_in : zMv mX7_in 3 := ⟨zTin (List.mem_of_getElem? (i := 752) (by decide +kernel)) rfl, zTin (List.mem_of_getElem? (i := 62) (by decide +kernel)) rfl, by decide +kernel, by decide +kernel⟩
theorem wt_X7_in : Cond.static yX7_in ∈ zT := zTin (List.mem_of_getElem? (i := 751) (by decide +kernel)) rfl
abbrev mX7_held : zM := (yX7_held, cX7_held, 2, (some .int))
theorem wm_X7_held : zMv mX7_held 2 := ⟨zTin (List.mem_of_getElem? (i := 676) (by decide +kernel)) rfl, zTin (List.mem_of_getElem? (i := 62) (by decide +kernel)) rfl, by decide +kernel, by decide +kernel⟩
theorem wt_X7_held : Cond.static yX7_held ∈ zT := zTin (List.mem_of_getElem? (i := 675) (by decide +kernel)) rfl
abbrev mX7_holds : zM := (yX7_holds, cX7_holds, 2, (some .int))
theorem wm_X7_holds : zMv mX7_holds 2 := ⟨zTin (List.mem_of_getElem? (i := 758) (by decide +kernel)) rfl, zTin (List.mem_of_getElem? (i := 62) (by decide +kernel)) rfl, by decide +kernel, by decide +kernel⟩
theorem wt_X7_holds : Cond.static yX7_holds ∈ zT := zTin (List.mem_of_getElem? (i := 757) (by decide +kernel)) rfl
abbrev mX7_of : zM := (yX7_of, cX7_of, 2, (some .int))
theorem wm_X7_of : zMv mX7_of 2 := ⟨zTin (List.mem_of_getElem? (i := 773) (by decide +kernel)) rfl, zTin (List.mem_of_getElem? (i := 62) (by decide +kernel)) rfl, by decide +kernel, by decide +kernel⟩
theorem wt_X7_of : Cond.static yX7_of ∈ zT := zTin (List.mem_of_getElem? (i := 772) (by decide +kernel)) rfl
abbrev mX7_isAgent : zM := (yX7_isAgent, cX7_isAgent, 1, (some .boolean))
theorem wm_X7_isAgent : zMv mX7_isAgent 1 := ⟨zTin (List.mem_of_getElem? (i := 749) (by decide +kernel)) rfl, zTin (List.mem_of_getElem? (i := 62) (by decide +kernel)) rfl, by decide +kernel, by decide +kernel⟩
theorem wt_X7_isAgent : Cond.static yX7_isAgent ∈ zT := zTin (List.mem_of_getElem? (i := 748) (by decide +kernel)) rfl
abbrev mX7_isCell : zM := (yX7_isCell, cX7_isCell, 1, (some .boolean))
theorem wm_X7_isCell : zMv mX7_isCell 1 := ⟨zTin (List.mem_of_getElem? (i := 755) (by decide +kernel)) rfl, zTin (List.mem_of_getElem? (i := 62) (by decide +kernel)) rfl, by decide +kernel, by decide +kernel⟩
theorem wt_X7_isCell : Cond.static yX7_isCell ∈ zT := zTin (List.mem_of_getElem? (i := 754) (by decide +kernel)) rfl
abbrev mX7_areBoth : zM := (yX7_areBoth, cX7_areBoth, 2, (some .boolean))
theorem wm_X7_areBoth : zMv mX7_areBoth 2 := ⟨zTin (List.mem_of_getElem? (i := 804) (by decide +kernel)) rfl, zTin (List.mem_of_getElem? (i := 62) (by decide +kernel)) rfl, by decide +kernel, by decide +kernel⟩
theorem wt_X7_areBoth : Cond.static yX7_areBoth ∈ zT := zTin (List.mem_of_getElem? (i := 803) (by decide +kernel)) rfl
abbrev mX7_know : zM := (yX7_know, cX7_know, 2, none)
theorem wm_X7_know : zMv mX7_know 0 := ⟨zTin (List.mem_of_getElem? (i := 766) (by decide +kernel)) rfl, zTin (List.mem_of_getElem? (i := 62) (by decide +kernel)) rfl, by decide +kernel, by decide +kernel⟩
theorem wi_X7_know : zMi mX7_know := ⟨zTin (List.mem_of_getElem? (i := 765) (by decide +kernel)) rfl, zTin (List.mem_of_getElem? (i := 25) (by decide +kernel)) rfl⟩
abbrev mX7_putAside : zM := (yX7_putAside, cX7_putAside, 2, none)
theorem wm_X7_putAside : zMv mX7_putAside 0 := ⟨zTin (List.mem_of_getElem? (i := 808) (by decide +kernel)) rfl, zTin (List.mem_of_getElem? (i := 62) (by decide +kernel)) rfl, by decide +kernel, by decide +kernel⟩
theorem wi_X7_putAside : zMi mX7_putAside := ⟨zTin (List.mem_of_getElem? (i := 807) (by decide +kernel)) rfl, zTin (List.mem_of_getElem? (i := 31) (by decide +kernel)) rfl⟩
abbrev mX7_putBack : zM := (yX7_putBack, cX7_putBack, 2, none)
theorem wm_X7_putBack : zMv mX7_putBack 0 := ⟨zTin (List.mem_of_getElem? (i := 828) (by decide +kernel)) rfl, zTin (List.mem_of_getElem? (i := 62) (by decide +kernel)) rfl, by decide +kernel, by decide +kernel⟩
theorem wi_X7_putBack : zMi mX7_putBack := ⟨zTin (List.mem_of_getElem? (i := 827) (by decide +kernel)) rfl, zTin (List.mem_of_getElem? (i := 36) (by decide +kernel)) rfl⟩
abbrev mX7_placeOf : zM := (yX7_placeOf, cX7_placeOf, 3, (some .int))
theorem wm_X7_placeOf : zMv mX7_placeOf 1 := ⟨zTin (List.mem_of_getElem? (i := 789) (by decide +kernel)) rfl, zTin (List.mem_of_getElem? (i := 62) (by decide +kernel)) rfl, by decide +kernel, by decide +kernel⟩
theorem wi_X7_placeOf : zMi mX7_placeOf := ⟨zTin (List.mem_of_getElem? (i := 788) (by decide +kernel)) rfl, zTin (List.mem_of_getElem? (i := 28) (by decide +kernel)) rfl⟩
abbrev mX7_isFull : zM := (yX7_isFull, cX7_isFull, 1, (some .boolean))
theorem wm_X7_isFull : zMv mX7_isFull 0 := ⟨zTin (List.mem_of_getElem? (i := 762) (by decide +kernel)) rfl, zTin (List.mem_of_getElem? (i := 62) (by decide +kernel)) rfl, by decide +kernel, by decide +kernel⟩
theorem wi_X7_isFull : zMi mX7_isFull := ⟨zTin (List.mem_of_getElem? (i := 761) (by decide +kernel)) rfl, zTin (List.mem_of_getElem? (i := 24) (by decide +kernel)) rfl⟩
abbrev mX7_lends : zM := (yX7_lends, cX7_lends, 6, (some .int))
theorem wm_X7_lends : zMv mX7_lends 4 := ⟨zTin (List.mem_of_getElem? (i := 770) (by decide +kernel)) rfl, zTin (List.mem_of_getElem? (i := 62) (by decide +kernel)) rfl, by decide +kernel, by decide +kernel⟩
theorem wi_X7_lends : zMi mX7_lends := ⟨zTin (List.mem_of_getElem? (i := 769) (by decide +kernel)) rfl, zTin (List.mem_of_getElem? (i := 26) (by decide +kernel)) rfl⟩
abbrev mX7_canGive : zM := (yX7_canGive, cX7_canGive, 4, (some .boolean))
theorem wm_X7_canGive : zMv mX7_canGive 1 := ⟨zTin (List.mem_of_getElem? (i := 793) (by decide +kernel)) rfl, zTin (List.mem_of_getElem? (i := 62) (by decide +kernel)) rfl, by decide +kernel, by decide +kernel⟩
theorem wi_X7_canGive : zMi mX7_canGive := ⟨zTin (List.mem_of_getElem? (i := 792) (by decide +kernel)) rfl, zTin (List.mem_of_getElem? (i := 29) (by decide +kernel)) rfl⟩
abbrev mX7_gives : zM := (yX7_gives, cX7_gives, 5, (some .int))
theorem wm_X7_gives : zMv mX7_gives 1 := ⟨zTin (List.mem_of_getElem? (i := 797) (by decide +kernel)) rfl, zTin (List.mem_of_getElem? (i := 62) (by decide +kernel)) rfl, by decide +kernel, by decide +kernel⟩
theorem wi_X7_gives : zMi mX7_gives := ⟨zTin (List.mem_of_getElem? (i := 796) (by decide +kernel)) rfl, zTin (List.mem_of_getElem? (i := 30) (by decide +kernel)) rfl⟩
abbrev mX7_isGathering : zM := (yX7_isGathering, cX7_isGathering, 4, (some .boolean))
theorem wm_X7_isGathering : zMv mX7_isGathering 1 := ⟨zTin (List.mem_of_getElem? (i := 824) (by decide +kernel)) rfl, zTin (List.mem_of_getElem? (i := 62) (by decide +kernel)) rfl, by decide +kernel, by decide +kernel⟩
theorem wi_X7_isGathering : zMi mX7_isGathering := ⟨zTin (List.mem_of_getElem? (i := 823) (by decide +kernel)) rfl, zTin (List.mem_of_getElem? (i := 35) (by decide +kernel)) rfl⟩
abbrev mX7_enter : zM := (yX7_enter, cX7_enter, 2, none)
theorem wm_X7_enter : zMv mX7_enter 1 := ⟨zTin (List.mem_of_getElem? (i := 816) (by decide +kernel)) rfl, zTin (List.mem_of_getElem? (i := 62) (by decide +kernel)) rfl, by decide +kernel, by decide +kernel⟩
theorem wi_X7_enter : zMi mX7_enter := ⟨zTin (List.mem_of_getElem? (i := 815) (by decide +kernel)) rfl, zTin (List.mem_of_getElem? (i := 33) (by decide +kernel)) rfl⟩
abbrev mX7_latest : zM := (yX7_latest, cX7_latest, 7, (some .int))
theorem wm_X7_latest : zMv mX7_latest 3 := ⟨zTin (List.mem_of_getElem? (i := 820) (by decide +kernel)) rfl, zTin (List.mem_of_getElem? (i := 62) (by decide +kernel)) rfl, by decide +kernel, by decide +kernel⟩
theorem wi_X7_latest : zMi mX7_latest := ⟨zTin (List.mem_of_getElem? (i := 819) (by decide +kernel)) rfl, zTin (List.mem_of_getElem? (i := 34) (by decide +kernel)) rfl⟩
abbrev mX7_gathers : zM := (yX7_gathers, cX7_gathers, 9, (some .int))
theorem wm_X7_gathers : zMv mX7_gathers 2 := ⟨zTin (List.mem_of_getElem? (i := 812) (by decide +kernel)) rfl, zTin (List.mem_of_getElem? (i := 62) (by decide +kernel)) rfl, by decide +kernel, by decide +kernel⟩
theorem wi_X7_gathers : zMi mX7_gathers := ⟨zTin (List.mem_of_getElem? (i := 811) (by decide +kernel)) rfl, zTin (List.mem_of_getElem? (i := 32) (by decide +kernel)) rfl⟩
abbrev mX7_wouldGather : zM := (yX7_wouldGather, cX7_wouldGather, 6, (some .int))
theorem wm_X7_wouldGather : zMv mX7_wouldGather 2 := ⟨zTin (List.mem_of_getElem? (i := 952) (by decide +kernel)) rfl, zTin (List.mem_of_getElem? (i := 62) (by decide +kernel)) rfl, by decide +kernel, by decide +kernel⟩
theorem wi_X7_wouldGather : zMi mX7_wouldGather := ⟨zTin (List.mem_of_getElem? (i := 951) (by decide +kernel)) rfl, zTin (List.mem_of_getElem? (i := 52) (by decide +kernel)) rfl⟩
abbrev mX7_lendFault : zM := (yX7_lendFault, cX7_lendFault, 5, (some .int))
theorem wm_X7_lendFault : zMv mX7_lendFault 4 := ⟨zTin (List.mem_of_getElem? (i := 746) (by decide +kernel)) rfl, zTin (List.mem_of_getElem? (i := 62) (by decide +kernel)) rfl, by decide +kernel, by decide +kernel⟩
theorem wi_X7_lendFault : zMi mX7_lendFault := ⟨zTin (List.mem_of_getElem? (i := 745) (by decide +kernel)) rfl, zTin (List.mem_of_getElem? (i := 23) (by decide +kernel)) rfl⟩
abbrev mX7_backFault : zM := (yX7_backFault, cX7_backFault, 3, (some .int))
theorem wm_X7_backFault : zMv mX7_backFault 1 := ⟨zTin (List.mem_of_getElem? (i := 785) (by decide +kernel)) rfl, zTin (List.mem_of_getElem? (i := 62) (by decide +kernel)) rfl, by decide +kernel, by decide +kernel⟩
theorem wi_X7_backFault : zMi mX7_backFault := ⟨zTin (List.mem_of_getElem? (i := 784) (by decide +kernel)) rfl, zTin (List.mem_of_getElem? (i := 27) (by decide +kernel)) rfl⟩
abbrev mX7_writeFault : zM := (yX7_writeFault, cX7_writeFault, 4, (some .int))
theorem wm_X7_writeFault : zMv mX7_writeFault 3 := ⟨zTin (List.mem_of_getElem? (i := 840) (by decide +kernel)) rfl, zTin (List.mem_of_getElem? (i := 62) (by decide +kernel)) rfl, by decide +kernel, by decide +kernel⟩
theorem wi_X7_writeFault : zMi mX7_writeFault := ⟨zTin (List.mem_of_getElem? (i := 839) (by decide +kernel)) rfl, zTin (List.mem_of_getElem? (i := 37) (by decide +kernel)) rfl⟩
abbrev mX7_lend : zM := (yX7_lend, cX7_lend, 6, (some .int))
theorem wm_X7_lend : zMv mX7_lend 4 := ⟨zTin (List.mem_of_getElem? (i := 742) (by decide +kernel)) rfl, zTin (List.mem_of_getElem? (i := 62) (by decide +kernel)) rfl, by decide +kernel, by decide +kernel⟩
theorem wi_X7_lend : zMi mX7_lend := ⟨zTin (List.mem_of_getElem? (i := 740) (by decide +kernel)) rfl, zTin (List.mem_of_getElem? (i := 741) (by decide +kernel)) rfl⟩
abbrev mX7_half : zM := (yX7_half, cX7_half, 6, (some .int))
theorem wm_X7_half : zMv mX7_half 3 := ⟨zTin (List.mem_of_getElem? (i := 777) (by decide +kernel)) rfl, zTin (List.mem_of_getElem? (i := 62) (by decide +kernel)) rfl, by decide +kernel, by decide +kernel⟩
theorem wi_X7_half : zMi mX7_half := ⟨zTin (List.mem_of_getElem? (i := 775) (by decide +kernel)) rfl, zTin (List.mem_of_getElem? (i := 776) (by decide +kernel)) rfl⟩
abbrev mX7_giveBack : zM := (yX7_giveBack, cX7_giveBack, 3, (some .int))
theorem wm_X7_giveBack : zMv mX7_giveBack 1 := ⟨zTin (List.mem_of_getElem? (i := 781) (by decide +kernel)) rfl, zTin (List.mem_of_getElem? (i := 62) (by decide +kernel)) rfl, by decide +kernel, by decide +kernel⟩
theorem wi_X7_giveBack : zMi mX7_giveBack := ⟨zTin (List.mem_of_getElem? (i := 779) (by decide +kernel)) rfl, zTin (List.mem_of_getElem? (i := 780) (by decide +kernel)) rfl⟩
abbrev mX7_gather : zM := (yX7_gather, cX7_gather, 4, (some .int))
theorem wm_X7_gather : zMv mX7_gather 2 := ⟨zTin (List.mem_of_getElem? (i := 801) (by decide +kernel)) rfl, zTin (List.mem_of_getElem? (i := 62) (by decide +kernel)) rfl, by decide +kernel, by decide +kernel⟩
theorem wi_X7_gather : zMi mX7_gather := ⟨zTin (List.mem_of_getElem? (i := 799) (by decide +kernel)) rfl, zTin (List.mem_of_getElem? (i := 800) (by decide +kernel)) rfl⟩
abbrev mX7_hold : zM := (yX7_hold, cX7_hold, 4, (some .int))
theorem wm_X7_hold : zMv mX7_hold 3 := ⟨zTin (List.mem_of_getElem? (i := 832) (by decide +kernel)) rfl, zTin (List.mem_of_getElem? (i := 62) (by decide +kernel)) rfl, by decide +kernel, by decide +kernel⟩
theorem wi_X7_hold : zMi mX7_hold := ⟨zTin (List.mem_of_getElem? (i := 830) (by decide +kernel)) rfl, zTin (List.mem_of_getElem? (i := 831) (by decide +kernel)) rfl⟩
abbrev mX7_writes : zM := (yX7_writes, cX7_writes, 3, (some .int))
theorem wm_X7_writes : zMv mX7_writes 2 := ⟨zTin (List.mem_of_getElem? (i := 844) (by decide +kernel)) rfl, zTin (List.mem_of_getElem? (i := 62) (by decide +kernel)) rfl, by decide +kernel, by decide +kernel⟩
theorem wi_X7_writes : zMi mX7_writes := ⟨zTin (List.mem_of_getElem? (i := 843) (by decide +kernel)) rfl, zTin (List.mem_of_getElem? (i := 38) (by decide +kernel)) rfl⟩
abbrev mX7_write : zM := (yX7_write, cX7_write, 5, (some .int))
theorem wm_X7_write : zMv mX7_write 3 := ⟨zTin (List.mem_of_getElem? (i := 836) (by decide +kernel)) rfl, zTin (List.mem_of_getElem? (i := 62) (by decide +kernel)) rfl, by decide +kernel, by decide +kernel⟩
theorem wi_X7_write : zMi mX7_write := ⟨zTin (List.mem_of_getElem? (i := 834) (by decide +kernel)) rfl, zTin (List.mem_of_getElem? (i := 835) (by decide +kernel)) rfl⟩
abbrev mX7_read : zM := (yX7_read, cX7_read, 3, (some .int))
theorem wm_X7_read : zMv mX7_read 2 := ⟨zTin (List.mem_of_getElem? (i := 848) (by decide +kernel)) rfl, zTin (List.mem_of_getElem? (i := 62) (by decide +kernel)) rfl, by decide +kernel, by decide +kernel⟩
theorem wi_X7_read : zMi mX7_read := ⟨zTin (List.mem_of_getElem? (i := 846) (by decide +kernel)) rfl, zTin (List.mem_of_getElem? (i := 847) (by decide +kernel)) rfl⟩
abbrev mX7_placeOfClaim : zM := (yX7_placeOfClaim, cX7_placeOfClaim, 5, (some .int))
theorem wm_X7_placeOfClaim : zMv mX7_placeOfClaim 2 := ⟨zTin (List.mem_of_getElem? (i := 856) (by decide +kernel)) rfl, zTin (List.mem_of_getElem? (i := 62) (by decide +kernel)) rfl, by decide +kernel, by decide +kernel⟩
theorem wi_X7_placeOfClaim : zMi mX7_placeOfClaim := ⟨zTin (List.mem_of_getElem? (i := 855) (by decide +kernel)) rfl, zTin (List.mem_of_getElem? (i := 39) (by decide +kernel)) rfl⟩
abbrev mX7_dropClaim : zM := (yX7_dropClaim, cX7_dropClaim, 4, none)
theorem wm_X7_dropClaim : zMv mX7_dropClaim 2 := ⟨zTin (List.mem_of_getElem? (i := 860) (by decide +kernel)) rfl, zTin (List.mem_of_getElem? (i := 62) (by decide +kernel)) rfl, by decide +kernel, by decide +kernel⟩
theorem wi_X7_dropClaim : zMi mX7_dropClaim := ⟨zTin (List.mem_of_getElem? (i := 859) (by decide +kernel)) rfl, zTin (List.mem_of_getElem? (i := 40) (by decide +kernel)) rfl⟩
abbrev mX7_claim : zM := (yX7_claim, cX7_claim, 5, (some .int))
theorem wm_X7_claim : zMv mX7_claim 3 := ⟨zTin (List.mem_of_getElem? (i := 852) (by decide +kernel)) rfl, zTin (List.mem_of_getElem? (i := 62) (by decide +kernel)) rfl, by decide +kernel, by decide +kernel⟩
theorem wi_X7_claim : zMi mX7_claim := ⟨zTin (List.mem_of_getElem? (i := 850) (by decide +kernel)) rfl, zTin (List.mem_of_getElem? (i := 851) (by decide +kernel)) rfl⟩
abbrev mX7_serves : zM := (yX7_serves, cX7_serves, 7, (some .int))
theorem wm_X7_serves : zMv mX7_serves 1 := ⟨zTin (List.mem_of_getElem? (i := 868) (by decide +kernel)) rfl, zTin (List.mem_of_getElem? (i := 62) (by decide +kernel)) rfl, by decide +kernel, by decide +kernel⟩
theorem wi_X7_serves : zMi mX7_serves := ⟨zTin (List.mem_of_getElem? (i := 867) (by decide +kernel)) rfl, zTin (List.mem_of_getElem? (i := 41) (by decide +kernel)) rfl⟩
abbrev mX7_serve : zM := (yX7_serve, cX7_serve, 3, (some .int))
theorem wm_X7_serve : zMv mX7_serve 1 := ⟨zTin (List.mem_of_getElem? (i := 864) (by decide +kernel)) rfl, zTin (List.mem_of_getElem? (i := 62) (by decide +kernel)) rfl, by decide +kernel, by decide +kernel⟩
theorem wi_X7_serve : zMi mX7_serve := ⟨zTin (List.mem_of_getElem? (i := 862) (by decide +kernel)) rfl, zTin (List.mem_of_getElem? (i := 863) (by decide +kernel)) rfl⟩
abbrev mX7_loansOf : zM := (yX7_loansOf, cX7_loansOf, 4, (some .int))
theorem wm_X7_loansOf : zMv mX7_loansOf 1 := ⟨zTin (List.mem_of_getElem? (i := 876) (by decide +kernel)) rfl, zTin (List.mem_of_getElem? (i := 62) (by decide +kernel)) rfl, by decide +kernel, by decide +kernel⟩
theorem wi_X7_loansOf : zMi mX7_loansOf := ⟨zTin (List.mem_of_getElem? (i := 875) (by decide +kernel)) rfl, zTin (List.mem_of_getElem? (i := 42) (by decide +kernel)) rfl⟩
abbrev mX7_handOver : zM := (yX7_handOver, cX7_handOver, 4, (some .int))
theorem wm_X7_handOver : zMv mX7_handOver 2 := ⟨zTin (List.mem_of_getElem? (i := 872) (by decide +kernel)) rfl, zTin (List.mem_of_getElem? (i := 62) (by decide +kernel)) rfl, by decide +kernel, by decide +kernel⟩
theorem wi_X7_handOver : zMi mX7_handOver := ⟨zTin (List.mem_of_getElem? (i := 870) (by decide +kernel)) rfl, zTin (List.mem_of_getElem? (i := 871) (by decide +kernel)) rfl⟩
abbrev mX7_type : zM := (yX7_type, cX7_type, 2, (some .int))
theorem wm_X7_type : zMv mX7_type 1 := ⟨zTin (List.mem_of_getElem? (i := 880) (by decide +kernel)) rfl, zTin (List.mem_of_getElem? (i := 62) (by decide +kernel)) rfl, by decide +kernel, by decide +kernel⟩
theorem wi_X7_type : zMi mX7_type := ⟨zTin (List.mem_of_getElem? (i := 878) (by decide +kernel)) rfl, zTin (List.mem_of_getElem? (i := 879) (by decide +kernel)) rfl⟩
abbrev mX7_clearText : zM := (yX7_clearText, cX7_clearText, 2, (some .int))
theorem wm_X7_clearText : zMv mX7_clearText 0 := ⟨zTin (List.mem_of_getElem? (i := 884) (by decide +kernel)) rfl, zTin (List.mem_of_getElem? (i := 62) (by decide +kernel)) rfl, by decide +kernel, by decide +kernel⟩
theorem wi_X7_clearText : zMi mX7_clearText := ⟨zTin (List.mem_of_getElem? (i := 882) (by decide +kernel)) rfl, zTin (List.mem_of_getElem? (i := 883) (by decide +kernel)) rfl⟩
abbrev mX7_sign : zM := (yX7_sign, cX7_sign, 4, (some .int))
theorem wm_X7_sign : zMv mX7_sign 2 := ⟨zTin (List.mem_of_getElem? (i := 904) (by decide +kernel)) rfl, zTin (List.mem_of_getElem? (i := 62) (by decide +kernel)) rfl, by decide +kernel, by decide +kernel⟩
theorem wi_X7_sign : zMi mX7_sign := ⟨zTin (List.mem_of_getElem? (i := 903) (by decide +kernel)) rfl, zTin (List.mem_of_getElem? (i := 46) (by decide +kernel)) rfl⟩
abbrev mX7_digit : zM := (yX7_digit, cX7_digit, 1, (some .int))
theorem wm_X7_digit : zMv mX7_digit 0 := ⟨zTin (List.mem_of_getElem? (i := 908) (by decide +kernel)) rfl, zTin (List.mem_of_getElem? (i := 62) (by decide +kernel)) rfl, by decide +kernel, by decide +kernel⟩
theorem wi_X7_digit : zMi mX7_digit := ⟨zTin (List.mem_of_getElem? (i := 907) (by decide +kernel)) rfl, zTin (List.mem_of_getElem? (i := 47) (by decide +kernel)) rfl⟩
abbrev mX7_number : zM := (yX7_number, cX7_number, 4, (some .int))
theorem wm_X7_number : zMv mX7_number 2 := ⟨zTin (List.mem_of_getElem? (i := 900) (by decide +kernel)) rfl, zTin (List.mem_of_getElem? (i := 62) (by decide +kernel)) rfl, by decide +kernel, by decide +kernel⟩
theorem wi_X7_number : zMi mX7_number := ⟨zTin (List.mem_of_getElem? (i := 899) (by decide +kernel)) rfl, zTin (List.mem_of_getElem? (i := 45) (by decide +kernel)) rfl⟩
abbrev mX7_order : zM := (yX7_order, cX7_order, 3, none)
theorem wm_X7_order : zMv mX7_order 0 := ⟨zTin (List.mem_of_getElem? (i := 896) (by decide +kernel)) rfl, zTin (List.mem_of_getElem? (i := 62) (by decide +kernel)) rfl, by decide +kernel, by decide +kernel⟩
theorem wi_X7_order : zMi mX7_order := ⟨zTin (List.mem_of_getElem? (i := 895) (by decide +kernel)) rfl, zTin (List.mem_of_getElem? (i := 44) (by decide +kernel)) rfl⟩
abbrev mX7_does : zM := (yX7_does, cX7_does, 6, (some .int))
theorem wm_X7_does : zMv mX7_does 0 := ⟨zTin (List.mem_of_getElem? (i := 912) (by decide +kernel)) rfl, zTin (List.mem_of_getElem? (i := 62) (by decide +kernel)) rfl, by decide +kernel, by decide +kernel⟩
theorem wi_X7_does : zMi mX7_does := ⟨zTin (List.mem_of_getElem? (i := 911) (by decide +kernel)) rfl, zTin (List.mem_of_getElem? (i := 48) (by decide +kernel)) rfl⟩
abbrev mX7_go : zM := (yX7_go, cX7_go, 5, (some .int))
theorem wm_X7_go : zMv mX7_go 1 := ⟨zTin (List.mem_of_getElem? (i := 892) (by decide +kernel)) rfl, zTin (List.mem_of_getElem? (i := 62) (by decide +kernel)) rfl, by decide +kernel, by decide +kernel⟩
theorem wi_X7_go : zMi mX7_go := ⟨zTin (List.mem_of_getElem? (i := 891) (by decide +kernel)) rfl, zTin (List.mem_of_getElem? (i := 43) (by decide +kernel)) rfl⟩
abbrev mX7_perform : zM := (yX7_perform, cX7_perform, 2, (some .int))
theorem wm_X7_perform : zMv mX7_perform 0 := ⟨zTin (List.mem_of_getElem? (i := 888) (by decide +kernel)) rfl, zTin (List.mem_of_getElem? (i := 62) (by decide +kernel)) rfl, by decide +kernel, by decide +kernel⟩
theorem wi_X7_perform : zMi mX7_perform := ⟨zTin (List.mem_of_getElem? (i := 886) (by decide +kernel)) rfl, zTin (List.mem_of_getElem? (i := 887) (by decide +kernel)) rfl⟩
abbrev mX7_stop : zM := (yX7_stop, cX7_stop, 2, (some .int))
theorem wm_X7_stop : zMv mX7_stop 1 := ⟨zTin (List.mem_of_getElem? (i := 916) (by decide +kernel)) rfl, zTin (List.mem_of_getElem? (i := 62) (by decide +kernel)) rfl, by decide +kernel, by decide +kernel⟩
theorem wi_X7_stop : zMi mX7_stop := ⟨zTin (List.mem_of_getElem? (i := 914) (by decide +kernel)) rfl, zTin (List.mem_of_getElem? (i := 915) (by decide +kernel)) rfl⟩
abbrev mX7_undo : zM := (yX7_undo, cX7_undo, 2, (some .int))
theorem wm_X7_undo : zMv mX7_undo 0 := ⟨zTin (List.mem_of_getElem? (i := 920) (by decide +kernel)) rfl, zTin (List.mem_of_getElem? (i := 62) (by decide +kernel)) rfl, by decide +kernel, by decide +kernel⟩
theorem wi_X7_undo : zMi mX7_undo := ⟨zTin (List.mem_of_getElem? (i := 918) (by decide +kernel)) rfl, zTin (List.mem_of_getElem? (i := 919) (by decide +kernel)) rfl⟩
abbrev mX7_keep : zM := (yX7_keep, cX7_keep, 2, (some .int))
theorem wm_X7_keep : zMv mX7_keep 0 := ⟨zTin (List.mem_of_getElem? (i := 924) (by decide +kernel)) rfl, zTin (List.mem_of_getElem? (i := 62) (by decide +kernel)) rfl, by decide +kernel, by decide +kernel⟩
theorem wi_X7_keep : zMi mX7_keep := ⟨zTin (List.mem_of_getElem? (i := 922) (by decide +kernel)) rfl, zTin (List.mem_of_getElem? (i := 923) (by decide +kernel)) rfl⟩
abbrev mX7_restore : zM := (yX7_restore, cX7_restore, 2, (some .int))
theorem wm_X7_restore : zMv mX7_restore 0 := ⟨zTin (List.mem_of_getElem? (i := 928) (by decide +kernel)) rfl, zTin (List.mem_of_getElem? (i := 62) (by decide +kernel)) rfl, by decide +kernel, by decide +kernel⟩
theorem wi_X7_restore : zMi mX7_restore := ⟨zTin (List.mem_of_getElem? (i := 926) (by decide +kernel)) rfl, zTin (List.mem_of_getElem? (i := 927) (by decide +kernel)) rfl⟩
abbrev mX7_agentsOf : zM := (yX7_agentsOf, cX7_agentsOf, 5, (some .int))
theorem wm_X7_agentsOf : zMv mX7_agentsOf 2 := ⟨zTin (List.mem_of_getElem? (i := 936) (by decide +kernel)) rfl, zTin (List.mem_of_getElem? (i := 62) (by decide +kernel)) rfl, by decide +kernel, by decide +kernel⟩
theorem wi_X7_agentsOf : zMi mX7_agentsOf := ⟨zTin (List.mem_of_getElem? (i := 935) (by decide +kernel)) rfl, zTin (List.mem_of_getElem? (i := 49) (by decide +kernel)) rfl⟩
abbrev mX7_wholeOf : zM := (yX7_wholeOf, cX7_wholeOf, 4, (some .int))
theorem wm_X7_wholeOf : zMv mX7_wholeOf 1 := ⟨zTin (List.mem_of_getElem? (i := 940) (by decide +kernel)) rfl, zTin (List.mem_of_getElem? (i := 62) (by decide +kernel)) rfl, by decide +kernel, by decide +kernel⟩
theorem wi_X7_wholeOf : zMi mX7_wholeOf := ⟨zTin (List.mem_of_getElem? (i := 939) (by decide +kernel)) rfl, zTin (List.mem_of_getElem? (i := 50) (by decide +kernel)) rfl⟩
abbrev mX7_cell : zM := (yX7_cell, cX7_cell, 3, (some .int))
theorem wm_X7_cell : zMv mX7_cell 2 := ⟨zTin (List.mem_of_getElem? (i := 932) (by decide +kernel)) rfl, zTin (List.mem_of_getElem? (i := 62) (by decide +kernel)) rfl, by decide +kernel, by decide +kernel⟩
theorem wi_X7_cell : zMi mX7_cell := ⟨zTin (List.mem_of_getElem? (i := 930) (by decide +kernel)) rfl, zTin (List.mem_of_getElem? (i := 931) (by decide +kernel)) rfl⟩
abbrev mX7_sum : zM := (yX7_sum, cX7_sum, 6, (some .int))
theorem wm_X7_sum : zMv mX7_sum 3 := ⟨zTin (List.mem_of_getElem? (i := 948) (by decide +kernel)) rfl, zTin (List.mem_of_getElem? (i := 62) (by decide +kernel)) rfl, by decide +kernel, by decide +kernel⟩
theorem wi_X7_sum : zMi mX7_sum := ⟨zTin (List.mem_of_getElem? (i := 947) (by decide +kernel)) rfl, zTin (List.mem_of_getElem? (i := 51) (by decide +kernel)) rfl⟩
abbrev mX7_part : zM := (yX7_part, cX7_part, 4, (some .int))
theorem wm_X7_part : zMv mX7_part 3 := ⟨zTin (List.mem_of_getElem? (i := 944) (by decide +kernel)) rfl, zTin (List.mem_of_getElem? (i := 62) (by decide +kernel)) rfl, by decide +kernel, by decide +kernel⟩
theorem wi_X7_part : zMi mX7_part := ⟨zTin (List.mem_of_getElem? (i := 942) (by decide +kernel)) rfl, zTin (List.mem_of_getElem? (i := 943) (by decide +kernel)) rfl⟩
abbrev mX7_loan : zM := (yX7_loan, cX7_loan, 4, (some .int))
theorem wm_X7_loan : zMv mX7_loan 2 := ⟨zTin (List.mem_of_getElem? (i := 956) (by decide +kernel)) rfl, zTin (List.mem_of_getElem? (i := 62) (by decide +kernel)) rfl, by decide +kernel, by decide +kernel⟩
theorem wi_X7_loan : zMi mX7_loan := ⟨zTin (List.mem_of_getElem? (i := 954) (by decide +kernel)) rfl, zTin (List.mem_of_getElem? (i := 955) (by decide +kernel)) rfl⟩
abbrev mX7_reason : zM := (yX7_reason, cX7_reason, 3, (some .int))
theorem wm_X7_reason : zMv mX7_reason 2 := ⟨zTin (List.mem_of_getElem? (i := 960) (by decide +kernel)) rfl, zTin (List.mem_of_getElem? (i := 62) (by decide +kernel)) rfl, by decide +kernel, by decide +kernel⟩
theorem wi_X7_reason : zMi mX7_reason := ⟨zTin (List.mem_of_getElem? (i := 958) (by decide +kernel)) rfl, zTin (List.mem_of_getElem? (i := 959) (by decide +kernel)) rfl⟩
abbrev mX7_chain : zM := (yX7_chain, cX7_chain, 9, (some .int))
theorem wm_X7_chain : zMv mX7_chain 1 := ⟨zTin (List.mem_of_getElem? (i := 964) (by decide +kernel)) rfl, zTin (List.mem_of_getElem? (i := 62) (by decide +kernel)) rfl, by decide +kernel, by decide +kernel⟩
theorem wi_X7_chain : zMi mX7_chain := ⟨zTin (List.mem_of_getElem? (i := 962) (by decide +kernel)) rfl, zTin (List.mem_of_getElem? (i := 963) (by decide +kernel)) rfl⟩
abbrev mX7_sumOfCells : zM := (yX7_sumOfCells, cX7_sumOfCells, 4, (some .int))
theorem wm_X7_sumOfCells : zMv mX7_sumOfCells 1 := ⟨zTin (List.mem_of_getElem? (i := 972) (by decide +kernel)) rfl, zTin (List.mem_of_getElem? (i := 62) (by decide +kernel)) rfl, by decide +kernel, by decide +kernel⟩
theorem wi_X7_sumOfCells : zMi mX7_sumOfCells := ⟨zTin (List.mem_of_getElem? (i := 971) (by decide +kernel)) rfl, zTin (List.mem_of_getElem? (i := 53) (by decide +kernel)) rfl⟩
abbrev mX7_count : zM := (yX7_count, cX7_count, 2, (some .int))
theorem wm_X7_count : zMv mX7_count 1 := ⟨zTin (List.mem_of_getElem? (i := 968) (by decide +kernel)) rfl, zTin (List.mem_of_getElem? (i := 62) (by decide +kernel)) rfl, by decide +kernel, by decide +kernel⟩
theorem wi_X7_count : zMi mX7_count := ⟨zTin (List.mem_of_getElem? (i := 966) (by decide +kernel)) rfl, zTin (List.mem_of_getElem? (i := 967) (by decide +kernel)) rfl⟩
abbrev mJ6_bitCount_0f7a4 : zM := (yJ6_bitCount_0f7a4, cJ6_bitCount_0f7a4, 1, (some .int))
theorem wm_J6_bitCount_0f7a4 : zMv mJ6_bitCount_0f7a4 1 := ⟨zTin (List.mem_of_getElem? (i := 593) (by decide +kernel)) rfl, zTin (List.mem_of_getElem? (i := 66) (by decide +kernel)) rfl, by decide +kernel, by decide +kernel⟩
theorem wt_J6_bitCount_0f7a4 : Cond.static yJ6_bitCount_0f7a4 ∈ zT := zTin (List.mem_of_getElem? (i := 592) (by decide +kernel)) rfl
abbrev mJ9_max_7cf53 : zM := (yJ9_max_7cf53, cJ9_max_7cf53, 2, (some .int))
theorem wm_J9_max_7cf53 : zMv mJ9_max_7cf53 2 := ⟨zTin (List.mem_of_getElem? (i := 645) (by decide +kernel)) rfl, zTin (List.mem_of_getElem? (i := 64) (by decide +kernel)) rfl, by decide +kernel, by decide +kernel⟩
theorem wt_J9_max_7cf53 : Cond.static yJ9_max_7cf53 ∈ zT := zTin (List.mem_of_getElem? (i := 644) (by decide +kernel)) rfl
abbrev mJ9_min_7cf53 : zM := (yJ9_min_7cf53, cJ9_min_7cf53, 2, (some .int))
theorem wm_J9_min_7cf53 : zMv mJ9_min_7cf53 2 := ⟨zTin (List.mem_of_getElem? (i := 327) (by decide +kernel)) rfl, zTin (List.mem_of_getElem? (i := 64) (by decide +kernel)) rfl, by decide +kernel, by decide +kernel⟩
theorem wt_J9_min_7cf53 : Cond.static yJ9_min_7cf53 ∈ zT := zTin (List.mem_of_getElem? (i := 326) (by decide +kernel)) rfl
abbrev mJ7_fill_53178 : zM := (yJ7_fill_53178, cJ7_fill_53178, 4, none)
theorem wm_J7_fill_53178 : zMv mJ7_fill_53178 2 := ⟨zTin (List.mem_of_getElem? (i := 377) (by decide +kernel)) rfl, zTin (List.mem_of_getElem? (i := 65) (by decide +kernel)) rfl, by decide +kernel, by decide +kernel⟩
theorem wt_J7_fill_53178 : Cond.static yJ7_fill_53178 ∈ zT := zTin (List.mem_of_getElem? (i := 376) (by decide +kernel)) rfl
end
section
/-! the layout of the cells, and rows that the walker writes -/
theorem zSt_1 : zSt 1 := Or.inl rfl
theorem zSt_16 : zSt 16 := Or.inr (Or.inl rfl)
theorem zSt_31 : zSt 31 := Or.inr (Or.inr (Or.inl rfl))
theorem zSt_row {a : Int} (h0 : 0 ≤ a) (h1 : a < 5) : zSt (48 + 15 * a.toNat) := by
  unfold zSt
  omega
def fsState (b : Nat) : (Nat → Nat) → (Nat → Int32) → List Value := fun ad r => [.ref (ad (b + 1)), .ref (ad (b + 2)), .ref (ad (b + 3)), .ref (ad (b + 4)), .ref (ad (b + 5)), .ref (ad (b + 6)), .ref (ad (b + 9)), .int (r 7)]
def fsClaims (b : Nat) : (Nat → Nat) → (Nat → Int32) → List Value := fun ad _ => [.ref (ad (b + 7)), .ref (ad (b + 8))]
def fsLoans (b : Nat) : (Nat → Nat) → (Nat → Int32) → List Value := fun ad r => [.ref (ad (b + 10)), .ref (ad (b + 11)), .ref (ad (b + 12)), .ref (ad (b + 13)), .ref (ad (b + 14)), .int (r 5), .int (r 6), .int (r 7)]
theorem zo_State {b : Nat} (hb : zSt b) : zObj b 4 (fsState b) := by
  refine ⟨by unfold zSt at hb; omega, fun ad cI cZ cS r => ?_⟩
  rcases hb with rfl | rfl | rfl | rfl | rfl | rfl | rfl | rfl <;> rfl
theorem zo_Claims {b : Nat} (hb : zSt b) : zObj (b + 6) 0 (fsClaims b) := by
  refine ⟨by unfold zSt at hb; omega, fun ad cI cZ cS r => ?_⟩
  rcases hb with rfl | rfl | rfl | rfl | rfl | rfl | rfl | rfl <;> rfl
theorem zo_Loans {b : Nat} (hb : zSt b) : zObj (b + 9) 3 (fsLoans b) := by
  refine ⟨by unfold zSt at hb; omega, fun ad cI cZ cS r => ?_⟩
  rcases hb with rfl | rfl | rfl | rfl | rfl | rfl | rfl | rfl <;> rfl
theorem za_value {b : Nat} (hb : zSt b) : zArI (b + 1) 6 := by
  refine ⟨by unfold zSt at hb; omega, by decide, fun ad cI cZ cS r => ?_⟩
  rcases hb with rfl | rfl | rfl | rfl | rfl | rfl | rfl | rfl <;> rfl
theorem za_version {b : Nat} (hb : zSt b) : zArI (b + 2) 6 := by
  refine ⟨by unfold zSt at hb; omega, by decide, fun ad cI cZ cS r => ?_⟩
  rcases hb with rfl | rfl | rfl | rfl | rfl | rfl | rfl | rfl <;> rfl
theorem za_owner {b : Nat} (hb : zSt b) : zArI (b + 3) 6 := by
  refine ⟨by unfold zSt at hb; omega, by decide, fun ad cI cZ cS r => ?_⟩
  rcases hb with rfl | rfl | rfl | rfl | rfl | rfl | rfl | rfl <;> rfl
theorem za_held {b : Nat} (hb : zSt b) : zArI (b + 4) 36 := by
  refine ⟨by unfold zSt at hb; omega, by decide, fun ad cI cZ cS r => ?_⟩
  rcases hb with rfl | rfl | rfl | rfl | rfl | rfl | rfl | rfl <;> rfl
theorem za_holding {b : Nat} (hb : zSt b) : zArI (b + 5) 6 := by
  refine ⟨by unfold zSt at hb; omega, by decide, fun ad cI cZ cS r => ?_⟩
  rcases hb with rfl | rfl | rfl | rfl | rfl | rfl | rfl | rfl <;> rfl
theorem za_agents {b : Nat} (hb : zSt b) : zArI (b + 7) 36 := by
  refine ⟨by unfold zSt at hb; omega, by decide, fun ad cI cZ cS r => ?_⟩
  rcases hb with rfl | rfl | rfl | rfl | rfl | rfl | rfl | rfl <;> rfl
theorem za_sizes {b : Nat} (hb : zSt b) : zArI (b + 8) 6 := by
  refine ⟨by unfold zSt at hb; omega, by decide, fun ad cI cZ cS r => ?_⟩
  rcases hb with rfl | rfl | rfl | rfl | rfl | rfl | rfl | rfl <;> rfl
theorem za_number {b : Nat} (hb : zSt b) : zArI (b + 10) 40 := by
  refine ⟨by unfold zSt at hb; omega, by decide, fun ad cI cZ cS r => ?_⟩
  rcases hb with rfl | rfl | rfl | rfl | rfl | rfl | rfl | rfl <;> rfl
theorem za_lender {b : Nat} (hb : zSt b) : zArI (b + 11) 40 := by
  refine ⟨by unfold zSt at hb; omega, by decide, fun ad cI cZ cS r => ?_⟩
  rcases hb with rfl | rfl | rfl | rfl | rfl | rfl | rfl | rfl <;> rfl
theorem za_borrower {b : Nat} (hb : zSt b) : zArI (b + 12) 40 := by
  refine ⟨by unfold zSt at hb; omega, by decide, fun ad cI cZ cS r => ?_⟩
  rcases hb with rfl | rfl | rfl | rfl | rfl | rfl | rfl | rfl <;> rfl
theorem za_lcell {b : Nat} (hb : zSt b) : zArI (b + 13) 40 := by
  refine ⟨by unfold zSt at hb; omega, by decide, fun ad cI cZ cS r => ?_⟩
  rcases hb with rfl | rfl | rfl | rfl | rfl | rfl | rfl | rfl <;> rfl
theorem za_parts {b : Nat} (hb : zSt b) : zArI (b + 14) 40 := by
  refine ⟨by unfold zSt at hb; omega, by decide, fun ad cI cZ cS r => ?_⟩
  rcases hb with rfl | rfl | rfl | rfl | rfl | rfl | rfl | rfl <;> rfl
theorem zo_LentParts : zObj 0 6 (fun ad r => [.ref (ad 1), .ref (ad 16), .ref (ad 31), .ref (ad 46), .ref (ad 123), .ref (ad 125), .int (r 6), .int (r 7), .int (r 8), .int (r 9)]) := ⟨by decide, fun _ _ _ _ _ => rfl⟩
theorem zo_History : zObj 46 2 (fun ad r => [.ref (ad 47), .int (r 1), .int (r 2)]) := ⟨by decide, fun _ _ _ _ _ => rfl⟩
theorem zo_Gathering : zObj 123 1 (fun ad _ => [.ref (ad 124)]) := ⟨by decide, fun _ _ _ _ _ => rfl⟩
theorem zo_Text : zObj 125 5 (fun ad r => [.ref (ad 126), .int (r 1), .int (r 2), .ref (ad 127), .int (r 4)]) := ⟨by decide, fun _ _ _ _ _ => rfl⟩
theorem zo_Model : zObj 128 7 (fun ad r => [.ref (ad 129), .ref (ad 130), .ref (ad 131), .ref (ad 132), .int (r 4), .ref (ad 133), .int (r 6), .ref (ad 134), .int (r 8), .int (r 9), .int (r 10), .ref (ad 135), .ref (ad 136), .ref (ad 137), .int (r 14), .int (r 15), .int (r 16), .ref (ad 138), .int (r 18), .ref (ad 139)]) := ⟨by decide, fun _ _ _ _ _ => rfl⟩
theorem za_idleAt : zArI 124 384 := ⟨by decide, by decide, fun _ _ _ _ _ => rfl⟩
theorem za_signs : zArI 126 60 := ⟨by decide, by decide, fun _ _ _ _ _ => rfl⟩
theorem za_slots : zArI 127 150 := ⟨by decide, by decide, fun _ _ _ _ _ => rfl⟩
theorem za_ms : zArI 129 336 := ⟨by decide, by decide, fun _ _ _ _ _ => rfl⟩
theorem za_maside : zArI 130 336 := ⟨by decide, by decide, fun _ _ _ _ _ => rfl⟩
theorem za_masideToo : zArI 131 336 := ⟨by decide, by decide, fun _ _ _ _ _ => rfl⟩
theorem za_mbefore : zArI 132 1344 := ⟨by decide, by decide, fun _ _ _ _ _ => rfl⟩
theorem za_mkept : zArI 133 336 := ⟨by decide, by decide, fun _ _ _ _ _ => rfl⟩
theorem za_mtext : zArI 134 60 := ⟨by decide, by decide, fun _ _ _ _ _ => rfl⟩
theorem za_magents : zArI 135 7 := ⟨by decide, by decide, fun _ _ _ _ _ => rfl⟩
theorem za_mats : zArI 136 7 := ⟨by decide, by decide, fun _ _ _ _ _ => rfl⟩
theorem za_mwaits : zArZ 137 7 := ⟨by decide, by decide, fun _ _ _ _ _ => rfl⟩
theorem za_mtold : zArI 138 5 := ⟨by decide, by decide, fun _ _ _ _ _ => rfl⟩
theorem za_mends : zArZ 139 384 := ⟨by decide, by decide, fun _ _ _ _ _ => rfl⟩
theorem z_b01 (P : Prop) [Decidable P] : (if P then 1 else 0 : Int) = 0 ∨ (if P then 1 else 0 : Int) = 1 := by
  by_cases h : P
  · exact Or.inr (if_pos h)
  · exact Or.inl (if_neg h)
theorem z_off0 (d x : Int) : Op.lookupswitch.offset [] d x = d := rfl
section zrows3
variable {own : String} {cc : ByteArray} {nL : Nat} {ret : Option FieldType} {d : Nat} {Post : Option zA → zH → Prop} {Γ : zCx} {pc : Nat} {ls ls' : List (Nat × zA)} {st : List zA} {h : zH}
theorem z_top {x : Int} (k : ∀ y, y = x → zV own cc nL ret d Post Γ pc ls (zI y :: st) h) : zV own cc nL ret d Post Γ pc ls (zI x :: st) h := k x rfl
theorem z_topl {x : Int64} (k : ∀ y, y = x → zV own cc nL ret d Post Γ pc ls (zL y :: st) h) : zV own cc nL ret d Post Γ pc ls (zL x :: st) h := k x rfl
theorem z_heap (k : ∀ y, y = h → zV own cc nL ret d Post Γ pc ls st y) : zV own cc nL ret d Post Γ pc ls st h := k h rfl
theorem z_iincg {n i : Nat} {g a : Int} {lf : Int → List (Nat × zA)} (hd : decode cc pc = .ok (.iinc i g, 3)) (hv : ls[n]? = some (i, zI a)) (hn : i < nL) (he : ∀ y, (i, zI y) :: ls.filter (fun q => !(q.1 == i) && !(q.1 + 1 == i && zcat q.2 == 2)) = lf y) (k : ∀ y, y = zwr (a + g) → zV own cc nL ret d Post Γ (pc + 3) (lf y) st h) : zV own cc nL ret d Post Γ pc ls st h :=
  z_iinc hd hv hn (he _) (k _ rfl)
theorem z_sub (ks : List Nat) (hp : ks.filterMap (fun k => ls[k]?) = ls') (k : zV own cc nL ret d Post Γ pc ls' st h) : zV own cc nL ret d Post Γ pc ls st h := by
  subst hp
  obtain ⟨p, l, e, s, m, args, below, meth, c, D, ad, cI, cZ, cS⟩ := Γ
  intro Y hl hs hh H locs sl h1 h2 h3
  refine k Y (fun q hq => ?_) hs hh H locs sl (lv_sub h1 ks ?_) h2 h3
  · obtain ⟨i, -, hi⟩ := List.mem_filterMap.mp hq
    exact hl q (List.mem_of_getElem? hi)
  · unfold lv_pick
    rw [List.map_filterMap]
    congr 1
    funext i
    rw [List.getElem?_map]
theorem z_ifb_eq {P : Prop} [Decidable P] {off : Int} {tgt : Nat} (hd : decode cc pc = .ok (.ifCond .eq off, 3)) (ht : (pc : Int) + off = (tgt : Int)) (kt : ¬ P → zV own cc nL ret d Post Γ tgt ls st h) (kf : P → zV own cc nL ret d Post Γ (pc + 3) ls st h) : zV own cc nL ret d Post Γ pc ls (zI (if P then 1 else 0) :: st) h :=
  z_if_eq hd ht (fun q => kt (fun p => by rw [if_pos p] at q; exact absurd q (by decide))) (fun q => kf (by by_cases p : P; exact p; rw [if_neg p] at q; exact absurd rfl q))
theorem z_ifb_ne {P : Prop} [Decidable P] {off : Int} {tgt : Nat} (hd : decode cc pc = .ok (.ifCond .ne off, 3)) (ht : (pc : Int) + off = (tgt : Int)) (kt : P → zV own cc nL ret d Post Γ tgt ls st h) (kf : ¬ P → zV own cc nL ret d Post Γ (pc + 3) ls st h) : zV own cc nL ret d Post Γ pc ls (zI (if P then 1 else 0) :: st) h :=
  z_if_ne hd ht (fun q => kt (by by_cases p : P; exact p; rw [if_neg p] at q; exact absurd rfl q)) (fun q => kf (fun p => by rw [if_pos p] at q; exact absurd q (by decide)))
theorem z_ifnonnullN {off : Int} (hd : decode cc pc = .ok (.ifnonnull off, 3)) (k : zV own cc nL ret d Post Γ (pc + 3) ls st h) : zV own cc nL ret d Post Γ pc ls (zN :: st) h := by
  obtain ⟨p, l, e, s, m, args, below, meth, c, D, ad, cI, cZ, cS⟩ := Γ
  intro Y hl hs hh H locs sl h1 h2 h3
  refine lv_ifnonnullN Y.1 Y.2.1 hd ?_
  exact k Y hl hs.2 hh H locs sl h1 h2 h3
theorem z_lcmp {x y : Int64} (hd : decode cc pc = .ok (.lcmp, 1)) (k : zV own cc nL ret d Post Γ (pc + 1) ls (zI (lg_cmp x y).toInt :: st) h) : zV own cc nL ret d Post Γ pc ls (zL y :: zL x :: st) h := by
  obtain ⟨p, l, e, s, m, args, below, meth, c, D, ad, cI, cZ, cS⟩ := Γ
  intro Y hl hs hh H locs sl h1 h2 h3
  refine W.lcmp Y.1 Y.2.1 hd ?_
  have k2 := k Y hl ⟨zw1_to _, hs.2.2⟩ hh H locs sl h1 h2 h3
  simp only [List.map, zc, Int32.ofInt_toInt] at k2
  exact k2
end zrows3
end
