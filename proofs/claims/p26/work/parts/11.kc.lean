/-! walks of methods, from cut to cut (printed by wip/gen/genk.py) -/
set_option maxHeartbeats 4000000 in
set_option maxRecDepth 100000 in
theorem k_X6_cell_0 {d : Nat} {Post : Option zA → zH → Prop} {Γ : zCx} {h : zH} {a1 : Int} {a2 : Int}  (hd : 2 ≤ d) (Q :
 ((0 ≤ a1 ∧ a1 ≤ 5 →
  ((a2 = 0 →
   0 ≤ a1 ∧ a1 < 6 ∧
   Post (some (zI (h 2 a1.toNat))) h) ∧
  (a2 = 1 →
   0 ≤ a1 ∧ a1 < 6 ∧
   Post (some (zI (h 3 a1.toNat))) h) ∧
  (a2 = 2 →
   0 ≤ a1 ∧ a1 < 6 ∧
   Post (some (zI (h 4 a1.toNat))) h) ∧
  (a2 = 3 →
   ∃ (d7 : Nat) (P8 : Option zA → zH → Prop), d7 + 1 ≤ d ∧ zSp d7 mX4_countReaders [zR 1, zI a1] h P8 ∧ ∀ r9 h10, P8 r9 h10 →
   ∃ x13 : Int, r9 = some (zI x13) ∧
   Post (some (zI x13)) h10) ∧
  (a2 = 4 →
   (0 ≤ a1 ∧ a1 ≤ 5) ∧
   Post (some (zI (h 9 a1.toNat))) h) ∧
  (a2 = 5 →
   (0 ≤ a1 ∧ a1 ≤ 5) ∧
   Post (some (zI ((if h 9 a1.toNat = 0 then -5 else h 8 (6 * a1).toNat)))) h) ∧
  (a2 = 6 →
   ∃ (d16 : Nat) (P17 : Option zA → zH → Prop), d16 + 1 ≤ d ∧ zSp d16 mX3_countOf [zR 10, zI a1] h P17 ∧ ∀ r18 h19, P17 r18 h19 →
   ∃ x22 : Int, r18 = some (zI x22) ∧
   Post (some (zI x22)) h19) ∧
  (a2 = 7 →
   ∃ (d23 : Nat) (P24 : Option zA → zH → Prop), d23 + 1 ≤ d ∧ zSp d23 mX4_holderOfWhole [zR 1, zI a1] h P24 ∧ ∀ r25 h26, P24 r25 h26 →
   ∃ x29 : Int, r25 = some (zI x29) ∧
   Post (some (zI x29)) h26) ∧
  (a2 = 8 →
   ∃ (d30 : Nat) (P31 : Option zA → zH → Prop), d30 + 1 ≤ d ∧ zSp d30 mX4_countHolding [zR 1, zI a1] h P31 ∧ ∀ r32 h33, P31 r32 h33 →
   ∃ x36 : Int, r32 = some (zI x36) ∧
   Post (some (zI x36)) h33) ∧
  ((a2 < 0 ∨ 8 < a2) →
   Post (some (zI (-2))) h))) ∧
 (¬ (0 ≤ a1 ∧ a1 ≤ 5) →
  Post (some (zI (-1))) h))) :
    zV RX6 cX6_cell 3 (some .int) d Post Γ 0 [(0, zR 0), (1, zI a1), (2, zI a2)] [] h := by
  refine z_iload_n (pc := 0) (n := 1) dX6_cell_0 rfl rfl ?_
  refine z_callS (pc := 1) (M := mX6_isCell) (as := [_]) (st := []) c_X6_isCell wt_X6_isCell wm_X6_isCell ⟨by omega, by decide⟩ wl_X6_77 dX6_cell_1 rfl (Nat.le_of_ble_eq_true rfl) rfl ?_
  rintro _ _ ⟨rfl, rfl⟩
  refine z_ifb_ne (pc := 4) (tgt := 9) dX6_cell_4 (by decide) (fun c => ?_) (fun c => ?_)
  · replace Q := Q.1 c
    refine z_iload_n (pc := 9) (n := 2) dX6_cell_9 rfl rfl ?_
    rcases (show a2 = 0 ∨ a2 = 1 ∨ a2 = 2 ∨ a2 = 3 ∨ a2 = 4 ∨ a2 = 5 ∨ a2 = 6 ∨ a2 = 7 ∨ a2 = 8 ∨ (a2 < 0 ∨ 8 < a2) by omega) with c | c | c | c | c | c | c | c | c | c
    · replace Q := Q.1 c
      refine z_tableIn (pc := 10) (n := 0) (tgt := 60) dX6_cell_10 (by omega) (by decide) rfl (by decide) ?_
      refine z_aload_n (pc := 60) (n := 0) dX6_cell_60 rfl rfl ?_
      refine z_getR (pc := 61) (q2 := 1) zo_LentParts rfl inT6 (i := 0) (by decide) wf_X6_10 rfl (fun _ _ => rfl) dX6_cell_61 ?_
      refine z_getR (pc := 64) (q2 := 2) (zo_State zSt_1) rfl inT4 (i := 0) (by decide) wf_X6_83 rfl (fun _ _ => rfl) dX6_cell_64 ?_
      refine z_iload_n (pc := 67) (n := 1) dX6_cell_67 rfl rfl ?_
      obtain ⟨c1, c2, Q⟩ := Q
      refine z_iald (pc := 68) (za_value zSt_1) c1 c2 dX6_cell_68 ?_
      exact z_iret (pc := 69) rfl dX6_cell_69 Q
    · replace Q := Q.2.1 c
      refine z_tableIn (pc := 10) (n := 1) (tgt := 70) dX6_cell_10 (by omega) (by decide) rfl (by decide) ?_
      refine z_aload_n (pc := 70) (n := 0) dX6_cell_70 rfl rfl ?_
      refine z_getR (pc := 71) (q2 := 1) zo_LentParts rfl inT6 (i := 0) (by decide) wf_X6_10 rfl (fun _ _ => rfl) dX6_cell_71 ?_
      refine z_getR (pc := 74) (q2 := 3) (zo_State zSt_1) rfl inT4 (i := 1) (by decide) wf_X6_150 rfl (fun _ _ => rfl) dX6_cell_74 ?_
      refine z_iload_n (pc := 77) (n := 1) dX6_cell_77 rfl rfl ?_
      obtain ⟨c3, c4, Q⟩ := Q
      refine z_iald (pc := 78) (za_version zSt_1) c3 c4 dX6_cell_78 ?_
      exact z_iret (pc := 79) rfl dX6_cell_79 Q
    · replace Q := Q.2.2.1 c
      refine z_tableIn (pc := 10) (n := 2) (tgt := 80) dX6_cell_10 (by omega) (by decide) rfl (by decide) ?_
      refine z_aload_n (pc := 80) (n := 0) dX6_cell_80 rfl rfl ?_
      refine z_getR (pc := 81) (q2 := 1) zo_LentParts rfl inT6 (i := 0) (by decide) wf_X6_10 rfl (fun _ _ => rfl) dX6_cell_81 ?_
      refine z_getR (pc := 84) (q2 := 4) (zo_State zSt_1) rfl inT4 (i := 2) (by decide) wf_X6_153 rfl (fun _ _ => rfl) dX6_cell_84 ?_
      refine z_iload_n (pc := 87) (n := 1) dX6_cell_87 rfl rfl ?_
      obtain ⟨c5, c6, Q⟩ := Q
      refine z_iald (pc := 88) (za_owner zSt_1) c5 c6 dX6_cell_88 ?_
      exact z_iret (pc := 89) rfl dX6_cell_89 Q
    · replace Q := Q.2.2.2.1 c
      refine z_tableIn (pc := 10) (n := 3) (tgt := 90) dX6_cell_10 (by omega) (by decide) rfl (by decide) ?_
      refine z_aload_n (pc := 90) (n := 0) dX6_cell_90 rfl rfl ?_
      refine z_getR (pc := 91) (q2 := 1) zo_LentParts rfl inT6 (i := 0) (by decide) wf_X6_10 rfl (fun _ _ => rfl) dX6_cell_91 ?_
      refine z_iload_n (pc := 94) (n := 1) dX6_cell_94 rfl rfl ?_
      obtain ⟨d7, P8, e11, s12, Q⟩ := Q
      refine z_callV (pc := 95) (M := mX4_countReaders) (as := [_]) (st := []) s12 (zo_State zSt_1) rfl wi_X4_countReaders wm_X4_countReaders ⟨by omega, by decide⟩ wl_X6_156 dX6_cell_95 rfl (Nat.le_of_ble_eq_true rfl) rfl ?_
      intro r9 h10 s12
      obtain ⟨x13, rfl, Q⟩ := Q _ _ s12
      exact z_iret (pc := 98) rfl dX6_cell_98 Q
    · replace Q := Q.2.2.2.2.1 c
      refine z_tableIn (pc := 10) (n := 4) (tgt := 99) dX6_cell_10 (by omega) (by decide) rfl (by decide) ?_
      refine z_aload_n (pc := 99) (n := 0) dX6_cell_99 rfl rfl ?_
      refine z_getR (pc := 100) (q2 := 1) zo_LentParts rfl inT6 (i := 0) (by decide) wf_X6_10 rfl (fun _ _ => rfl) dX6_cell_100 ?_
      refine z_getR (pc := 103) (q2 := 7) (zo_State zSt_1) rfl inT4 (i := 5) (by decide) wf_X6_159 rfl (fun _ _ => rfl) dX6_cell_103 ?_
      refine z_iload_n (pc := 106) (n := 1) dX6_cell_106 rfl rfl ?_
      obtain ⟨c14, Q⟩ := Q
      refine z_callV (pc := 107) (M := mX0_size) (as := [_]) (st := []) (c_X0_size zSt_1 c14) (zo_Claims zSt_1) rfl wi_X0_size wm_X0_size ⟨by omega, by decide⟩ wl_X6_163 dX6_cell_107 rfl (Nat.le_of_ble_eq_true rfl) rfl ?_
      rintro _ _ ⟨rfl, rfl⟩
      exact z_iret (pc := 110) rfl dX6_cell_110 Q
    · replace Q := Q.2.2.2.2.2.1 c
      refine z_tableIn (pc := 10) (n := 5) (tgt := 111) dX6_cell_10 (by omega) (by decide) rfl (by decide) ?_
      refine z_aload_n (pc := 111) (n := 0) dX6_cell_111 rfl rfl ?_
      refine z_getR (pc := 112) (q2 := 1) zo_LentParts rfl inT6 (i := 0) (by decide) wf_X6_10 rfl (fun _ _ => rfl) dX6_cell_112 ?_
      refine z_getR (pc := 115) (q2 := 7) (zo_State zSt_1) rfl inT4 (i := 5) (by decide) wf_X6_159 rfl (fun _ _ => rfl) dX6_cell_115 ?_
      refine z_iload_n (pc := 118) (n := 1) dX6_cell_118 rfl rfl ?_
      obtain ⟨c15, Q⟩ := Q
      refine z_callV (pc := 119) (M := mX0_first) (as := [_]) (st := []) (c_X0_first zSt_1 c15) (zo_Claims zSt_1) rfl wi_X0_first wm_X0_first ⟨by omega, by decide⟩ wl_X6_167 dX6_cell_119 rfl (Nat.le_of_ble_eq_true rfl) rfl ?_
      rintro _ _ ⟨rfl, rfl⟩
      exact z_iret (pc := 122) rfl dX6_cell_122 Q
    · replace Q := Q.2.2.2.2.2.2.1 c
      refine z_tableIn (pc := 10) (n := 6) (tgt := 123) dX6_cell_10 (by omega) (by decide) rfl (by decide) ?_
      refine z_aload_n (pc := 123) (n := 0) dX6_cell_123 rfl rfl ?_
      refine z_getR (pc := 124) (q2 := 1) zo_LentParts rfl inT6 (i := 0) (by decide) wf_X6_10 rfl (fun _ _ => rfl) dX6_cell_124 ?_
      refine z_getR (pc := 127) (q2 := 10) (zo_State zSt_1) rfl inT4 (i := 6) (by decide) wf_X6_141 rfl (fun _ _ => rfl) dX6_cell_127 ?_
      refine z_iload_n (pc := 130) (n := 1) dX6_cell_130 rfl rfl ?_
      obtain ⟨d16, P17, e20, s21, Q⟩ := Q
      refine z_callV (pc := 131) (M := mX3_countOf) (as := [_]) (st := []) s21 (zo_Loans zSt_1) rfl wi_X3_countOf wm_X3_countOf ⟨by omega, by decide⟩ wl_X6_170 dX6_cell_131 rfl (Nat.le_of_ble_eq_true rfl) rfl ?_
      intro r18 h19 s21
      obtain ⟨x22, rfl, Q⟩ := Q _ _ s21
      exact z_iret (pc := 134) rfl dX6_cell_134 Q
    · replace Q := Q.2.2.2.2.2.2.2.1 c
      refine z_tableIn (pc := 10) (n := 7) (tgt := 135) dX6_cell_10 (by omega) (by decide) rfl (by decide) ?_
      refine z_aload_n (pc := 135) (n := 0) dX6_cell_135 rfl rfl ?_
      refine z_getR (pc := 136) (q2 := 1) zo_LentParts rfl inT6 (i := 0) (by decide) wf_X6_10 rfl (fun _ _ => rfl) dX6_cell_136 ?_
      refine z_iload_n (pc := 139) (n := 1) dX6_cell_139 rfl rfl ?_
      obtain ⟨d23, P24, e27, s28, Q⟩ := Q
      refine z_callV (pc := 140) (M := mX4_holderOfWhole) (as := [_]) (st := []) s28 (zo_State zSt_1) rfl wi_X4_holderOfWhole wm_X4_holderOfWhole ⟨by omega, by decide⟩ wl_X6_173 dX6_cell_140 rfl (Nat.le_of_ble_eq_true rfl) rfl ?_
      intro r25 h26 s28
      obtain ⟨x29, rfl, Q⟩ := Q _ _ s28
      exact z_iret (pc := 143) rfl dX6_cell_143 Q
    · replace Q := Q.2.2.2.2.2.2.2.2.1 c
      refine z_tableIn (pc := 10) (n := 8) (tgt := 144) dX6_cell_10 (by omega) (by decide) rfl (by decide) ?_
      refine z_aload_n (pc := 144) (n := 0) dX6_cell_144 rfl rfl ?_
      refine z_getR (pc := 145) (q2 := 1) zo_LentParts rfl inT6 (i := 0) (by decide) wf_X6_10 rfl (fun _ _ => rfl) dX6_cell_145 ?_
      refine z_iload_n (pc := 148) (n := 1) dX6_cell_148 rfl rfl ?_
      obtain ⟨d30, P31, e34, s35, Q⟩ := Q
      refine z_callV (pc := 149) (M := mX4_countHolding) (as := [_]) (st := []) s35 (zo_State zSt_1) rfl wi_X4_countHolding wm_X4_countHolding ⟨by omega, by decide⟩ wl_X6_176 dX6_cell_149 rfl (Nat.le_of_ble_eq_true rfl) rfl ?_
      intro r32 h33 s35
      obtain ⟨x36, rfl, Q⟩ := Q _ _ s35
      exact z_iret (pc := 152) rfl dX6_cell_152 Q
    · replace Q := Q.2.2.2.2.2.2.2.2.2 c
      refine z_tableOut (pc := 10) (tgt := 153) dX6_cell_10 c (by decide) ?_
      refine z_bipush (pc := 153) (a := -2) dX6_cell_153 rfl ?_
      exact z_iret (pc := 155) rfl dX6_cell_155 Q
  · replace Q := Q.2 c
    refine z_iconst (pc := 7) (a := -1) dX6_cell_7 rfl ?_
    exact z_iret (pc := 8) rfl dX6_cell_8 Q
set_option maxHeartbeats 4000000 in
set_option maxRecDepth 100000 in
theorem k_X6_chain_0 {d : Nat} {Post : Option zA → zH → Prop} {Γ : zCx} {h : zH} {a1 : Int}  (hd : 2 ≤ d) (Q :
 ((¬ (0 ≤ a1 ∧ a1 ≤ 5) →
  Post (some (zI (-1))) h) ∧
 (0 ≤ a1 ∧ a1 ≤ 5 →
  ∃ (d1 : Nat) (P2 : Option zA → zH → Prop), d1 + 1 ≤ d ∧ zSp d1 mX3_longestChain [zR 10, zI a1] h P2 ∧ ∀ r3 h4, P2 r3 h4 →
  ∃ x7 : Int, r3 = some (zI x7) ∧
  Post (some (zI x7)) h4))) :
    zV RX6 cX6_chain 2 (some .int) d Post Γ 0 [(0, zR 0), (1, zI a1)] [] h := by
  refine z_iload_n (pc := 0) (n := 1) dX6_chain_0 rfl rfl ?_
  refine z_callS (pc := 1) (M := mX6_isCell) (as := [_]) (st := []) c_X6_isCell wt_X6_isCell wm_X6_isCell ⟨by omega, by decide⟩ wl_X6_77 dX6_chain_1 rfl (Nat.le_of_ble_eq_true rfl) rfl ?_
  rintro _ _ ⟨rfl, rfl⟩
  refine z_ifb_eq (pc := 4) (tgt := 21) dX6_chain_4 (by decide) (fun c => ?_) (fun c => ?_)
  · replace Q := Q.1 c
    refine z_iconst (pc := 21) (a := -1) dX6_chain_21 rfl ?_
    exact z_iret (pc := 22) rfl dX6_chain_22 Q
  · replace Q := Q.2 c
    refine z_aload_n (pc := 7) (n := 0) dX6_chain_7 rfl rfl ?_
    refine z_getR (pc := 8) (q2 := 1) zo_LentParts rfl inT6 (i := 0) (by decide) wf_X6_10 rfl (fun _ _ => rfl) dX6_chain_8 ?_
    refine z_getR (pc := 11) (q2 := 10) (zo_State zSt_1) rfl inT4 (i := 6) (by decide) wf_X6_141 rfl (fun _ _ => rfl) dX6_chain_11 ?_
    refine z_iload_n (pc := 14) (n := 1) dX6_chain_14 rfl rfl ?_
    obtain ⟨d1, P2, e5, s6, Q⟩ := Q
    refine z_callV (pc := 15) (M := mX3_longestChain) (as := [_]) (st := []) s6 (zo_Loans zSt_1) rfl wi_X3_longestChain wm_X3_longestChain ⟨by omega, by decide⟩ wl_X6_213 dX6_chain_15 rfl (Nat.le_of_ble_eq_true rfl) rfl ?_
    intro r3 h4 s6
    obtain ⟨x7, rfl, Q⟩ := Q _ _ s6
    refine z_goto (pc := 18) (tgt := 22) dX6_chain_18 (by decide) ?_
    exact z_iret (pc := 22) rfl dX6_chain_22 Q
set_option maxHeartbeats 4000000 in
set_option maxRecDepth 100000 in
theorem k_X6_claim_0 {d : Nat} {Post : Option zA → zH → Prop} {Γ : zCx} {h : zH} {a1 : Int} {a2 : Int} {a3 : Int}  (hd : 1 ≤ d) (Q :
 ∃ (d1 : Nat) (P2 : Option zA → zH → Prop), d1 + 1 ≤ d ∧ zSp d1 mX2_open [zR 46, zR 1] h P2 ∧ ∀ r3 h4, P2 r3 h4 →
 r3 = none ∧
 ∃ (d7 : Nat) (P8 : Option zA → zH → Prop), d7 + 1 ≤ d ∧ zSp d7 mX4_setClaim [zR 1, zI a1, zI a2, zI a3] h4 P8 ∧ ∀ r9 h10, P8 r9 h10 →
 ∃ x13 : Int, r9 = some (zI x13) ∧
 ∃ (d14 : Nat) (P15 : Option zA → zH → Prop), d14 + 1 ≤ d ∧ zSp d14 mX6_close [zR 0, zI x13] h10 P15 ∧ ∀ r16 h17, P15 r16 h17 →
 ∃ x20 : Int, r16 = some (zI x20) ∧
 Post (some (zI x20)) h17) :
    zV RX6 cX6_claim 4 (some .int) d Post Γ 0 [(0, zR 0), (1, zI a1), (2, zI a2), (3, zI a3)] [] h := by
  refine z_aload_n (pc := 0) (n := 0) dX6_claim_0 rfl rfl ?_
  refine z_getR (pc := 1) (q2 := 46) zo_LentParts rfl inT6 (i := 3) (by decide) wf_X6_25 rfl (fun _ _ => rfl) dX6_claim_1 ?_
  refine z_aload_n (pc := 4) (n := 0) dX6_claim_4 rfl rfl ?_
  refine z_getR (pc := 5) (q2 := 1) zo_LentParts rfl inT6 (i := 0) (by decide) wf_X6_10 rfl (fun _ _ => rfl) dX6_claim_5 ?_
  obtain ⟨d1, P2, e5, s6, Q⟩ := Q
  refine z_callV (pc := 8) (M := mX2_open) (as := [_]) (st := []) s6 zo_History rfl wi_X2_open wm_X2_open ⟨by omega, by decide⟩ wl_X6_43 dX6_claim_8 rfl (Nat.le_of_ble_eq_true rfl) rfl ?_
  intro r3 h4 s6
  obtain ⟨rfl, Q⟩ := Q _ _ s6
  refine z_aload_n (pc := 11) (n := 0) dX6_claim_11 rfl rfl ?_
  refine z_aload_n (pc := 12) (n := 0) dX6_claim_12 rfl rfl ?_
  refine z_getR (pc := 13) (q2 := 1) zo_LentParts rfl inT6 (i := 0) (by decide) wf_X6_10 rfl (fun _ _ => rfl) dX6_claim_13 ?_
  refine z_iload_n (pc := 16) (n := 1) dX6_claim_16 rfl rfl ?_
  refine z_iload_n (pc := 17) (n := 2) dX6_claim_17 rfl rfl ?_
  refine z_iload_n (pc := 18) (n := 3) dX6_claim_18 rfl rfl ?_
  obtain ⟨d7, P8, e11, s12, Q⟩ := Q
  refine z_callV (pc := 19) (M := mX4_setClaim) (as := [_, _, _]) (st := [_]) s12 (zo_State zSt_1) rfl wi_X4_setClaim wm_X4_setClaim ⟨by omega, by decide⟩ wl_X6_87 dX6_claim_19 rfl (Nat.le_of_ble_eq_true rfl) rfl ?_
  intro r9 h10 s12
  obtain ⟨x13, rfl, Q⟩ := Q _ _ s12
  obtain ⟨d14, P15, e18, s19, Q⟩ := Q
  refine z_callV (pc := 22) (M := mX6_close) (as := [_]) (st := []) s19 zo_LentParts rfl wi_X6_close wm_X6_close ⟨by omega, by decide⟩ wl_X6_51 dX6_claim_22 rfl (Nat.le_of_ble_eq_true rfl) rfl ?_
  intro r16 h17 s19
  obtain ⟨x20, rfl, Q⟩ := Q _ _ s19
  exact z_iret (pc := 25) rfl dX6_claim_25 Q
set_option maxHeartbeats 4000000 in
set_option maxRecDepth 100000 in
theorem k_X6_close_0 {d : Nat} {Post : Option zA → zH → Prop} {Γ : zCx} {h : zH} {a1 : Int}  (hd : 1 ≤ d) (Q :
 ((0 ≤ a1 →
  ∃ (d1 : Nat) (P2 : Option zA → zH → Prop), d1 + 1 ≤ d ∧ zSp d1 mX2_record [zR 46] h P2 ∧ ∀ r3 h4, P2 r3 h4 →
  r3 = none ∧
  Post (some (zI a1)) h4) ∧
 (¬ 0 ≤ a1 →
  ∃ (d7 : Nat) (P8 : Option zA → zH → Prop), d7 + 1 ≤ d ∧ zSp d7 mX2_opened [zR 46] h P8 ∧ ∀ r9 h10, P8 r9 h10 →
  ∃ k13 : Nat, r9 = some (zR k13) ∧ zSt k13 ∧
  ∃ (d15 : Nat) (P16 : Option zA → zH → Prop), d15 + 1 ≤ d ∧ zSp d15 mX4_copyFrom [zR 1, zR k13] h10 P16 ∧ ∀ r17 h18, P16 r17 h18 →
  r17 = none ∧
  Post (some (zI a1)) h18))) :
    zV RX6 cX6_close 2 (some .int) d Post Γ 0 [(0, zR 0), (1, zI a1)] [] h := by
  refine z_iload_n (pc := 0) (n := 1) dX6_close_0 rfl rfl ?_
  refine z_if_ge (pc := 1) (tgt := 21) dX6_close_1 (by decide) (fun c => ?_) (fun c => ?_)
  · replace Q := Q.1 c
    refine z_aload_n (pc := 21) (n := 0) dX6_close_21 rfl rfl ?_
    refine z_getR (pc := 22) (q2 := 46) zo_LentParts rfl inT6 (i := 3) (by decide) wf_X6_25 rfl (fun _ _ => rfl) dX6_close_22 ?_
    obtain ⟨d1, P2, e5, s6, Q⟩ := Q
    refine z_callV (pc := 25) (M := mX2_record) (as := []) (st := []) s6 zo_History rfl wi_X2_record wm_X2_record ⟨by omega, by decide⟩ wl_X6_238 dX6_close_25 rfl (Nat.le_of_ble_eq_true rfl) rfl ?_
    intro r3 h4 s6
    obtain ⟨rfl, Q⟩ := Q _ _ s6
    refine z_iload_n (pc := 28) (n := 1) dX6_close_28 rfl rfl ?_
    exact z_iret (pc := 29) rfl dX6_close_29 Q
  · replace Q := Q.2 c
    refine z_aload_n (pc := 4) (n := 0) dX6_close_4 rfl rfl ?_
    refine z_getR (pc := 5) (q2 := 1) zo_LentParts rfl inT6 (i := 0) (by decide) wf_X6_10 rfl (fun _ _ => rfl) dX6_close_5 ?_
    refine z_aload_n (pc := 8) (n := 0) dX6_close_8 rfl rfl ?_
    refine z_getR (pc := 9) (q2 := 46) zo_LentParts rfl inT6 (i := 3) (by decide) wf_X6_25 rfl (fun _ _ => rfl) dX6_close_9 ?_
    obtain ⟨d7, P8, e11, s12, Q⟩ := Q
    refine z_callV (pc := 12) (M := mX2_opened) (as := []) (st := [_]) s12 zo_History rfl wi_X2_opened wm_X2_opened ⟨by omega, by decide⟩ wl_X6_235 dX6_close_12 rfl (Nat.le_of_ble_eq_true rfl) rfl ?_
    intro r9 h10 s12
    obtain ⟨k13, rfl, hs14, Q⟩ := Q _ _ s12
    obtain ⟨d15, P16, e19, s20, Q⟩ := Q
    refine z_callV (pc := 15) (M := mX4_copyFrom) (as := [_]) (st := []) s20 (zo_State zSt_1) rfl wi_X4_copyFrom wm_X4_copyFrom ⟨by omega, by decide⟩ wl_X6_132 dX6_close_15 rfl (Nat.le_of_ble_eq_true rfl) rfl ?_
    intro r17 h18 s20
    obtain ⟨rfl, Q⟩ := Q _ _ s20
    refine z_goto (pc := 18) (tgt := 28) dX6_close_18 (by decide) ?_
    refine z_iload_n (pc := 28) (n := 1) dX6_close_28 rfl rfl ?_
    exact z_iret (pc := 29) rfl dX6_close_29 Q
set_option maxHeartbeats 4000000 in
set_option maxRecDepth 100000 in
theorem k_X6_count_0 {d : Nat} {Post : Option zA → zH → Prop} {Γ : zCx} {h : zH} {a1 : Int}  (hd : 2 ≤ d) (Q :
 ((a1 = 0 →
  Post (some (zI (h 10 5))) h) ∧
 (a1 = 1 →
  Post (some (zI (h 10 6))) h) ∧
 (a1 = 2 →
  ∃ (d1 : Nat) (P2 : Option zA → zH → Prop), d1 + 1 ≤ d ∧ zSp d1 mX4_countWholeCells [zR 1] h P2 ∧ ∀ r3 h4, P2 r3 h4 →
  ∃ x7 : Int, r3 = some (zI x7) ∧
  Post (some (zI x7)) h4) ∧
 (a1 = 3 →
  ∃ (d8 : Nat) (P9 : Option zA → zH → Prop), d8 + 1 ≤ d ∧ zSp d8 mX0_sizeOfAll [zR 7] h P9 ∧ ∀ r10 h11, P9 r10 h11 →
  ∃ x14 : Int, r10 = some (zI x14) ∧
  Post (some (zI x14)) h11) ∧
 (a1 = 4 →
  Post (some (zI (h 1 7))) h) ∧
 (a1 = 5 →
  Post (some (zI (h 10 7))) h) ∧
 (a1 = 6 →
  ∃ (d15 : Nat) (P16 : Option zA → zH → Prop), d15 + 1 ≤ d ∧ zSp d15 mX4_countAllHolding [zR 1] h P16 ∧ ∀ r17 h18, P16 r17 h18 →
  ∃ x21 : Int, r17 = some (zI x21) ∧
  Post (some (zI x21)) h18) ∧
 (a1 = 7 →
  Post (some (zI (h 46 2))) h) ∧
 (a1 = 8 →
  Post (some (zI (h 125 1))) h) ∧
 ((a1 < 0 ∨ 8 < a1) →
  Post (some (zI (-2))) h))) :
    zV RX6 cX6_count 2 (some .int) d Post Γ 0 [(0, zR 0), (1, zI a1)] [] h := by
  refine z_iload_n (pc := 0) (n := 1) dX6_count_0 rfl rfl ?_
  rcases (show a1 = 0 ∨ a1 = 1 ∨ a1 = 2 ∨ a1 = 3 ∨ a1 = 4 ∨ a1 = 5 ∨ a1 = 6 ∨ a1 = 7 ∨ a1 = 8 ∨ (a1 < 0 ∨ 8 < a1) by omega) with c | c | c | c | c | c | c | c | c | c
  · replace Q := Q.1 c
    refine z_tableIn (pc := 1) (n := 0) (tgt := 52) dX6_count_1 (by omega) (by decide) rfl (by decide) ?_
    refine z_aload_n (pc := 52) (n := 0) dX6_count_52 rfl rfl ?_
    refine z_getR (pc := 53) (q2 := 1) zo_LentParts rfl inT6 (i := 0) (by decide) wf_X6_10 rfl (fun _ _ => rfl) dX6_count_53 ?_
    refine z_getR (pc := 56) (q2 := 10) (zo_State zSt_1) rfl inT4 (i := 6) (by decide) wf_X6_141 rfl (fun _ _ => rfl) dX6_count_56 ?_
    refine z_getI (pc := 59) (zo_Loans zSt_1) rfl inT3 (i := 5) (by decide) wf_X6_145 rfl (fun _ _ => rfl) dX6_count_59 ?_
    exact z_iret (pc := 62) rfl dX6_count_62 Q
  · replace Q := Q.2.1 c
    refine z_tableIn (pc := 1) (n := 1) (tgt := 63) dX6_count_1 (by omega) (by decide) rfl (by decide) ?_
    refine z_aload_n (pc := 63) (n := 0) dX6_count_63 rfl rfl ?_
    refine z_getR (pc := 64) (q2 := 1) zo_LentParts rfl inT6 (i := 0) (by decide) wf_X6_10 rfl (fun _ _ => rfl) dX6_count_64 ?_
    refine z_getR (pc := 67) (q2 := 10) (zo_State zSt_1) rfl inT4 (i := 6) (by decide) wf_X6_141 rfl (fun _ _ => rfl) dX6_count_67 ?_
    refine z_getI (pc := 70) (zo_Loans zSt_1) rfl inT3 (i := 6) (by decide) wf_X6_216 rfl (fun _ _ => rfl) dX6_count_70 ?_
    exact z_iret (pc := 73) rfl dX6_count_73 Q
  · replace Q := Q.2.2.1 c
    refine z_tableIn (pc := 1) (n := 2) (tgt := 74) dX6_count_1 (by omega) (by decide) rfl (by decide) ?_
    refine z_aload_n (pc := 74) (n := 0) dX6_count_74 rfl rfl ?_
    refine z_getR (pc := 75) (q2 := 1) zo_LentParts rfl inT6 (i := 0) (by decide) wf_X6_10 rfl (fun _ _ => rfl) dX6_count_75 ?_
    obtain ⟨d1, P2, e5, s6, Q⟩ := Q
    refine z_callV (pc := 78) (M := mX4_countWholeCells) (as := []) (st := []) s6 (zo_State zSt_1) rfl wi_X4_countWholeCells wm_X4_countWholeCells ⟨by omega, by decide⟩ wl_X6_219 dX6_count_78 rfl (Nat.le_of_ble_eq_true rfl) rfl ?_
    intro r3 h4 s6
    obtain ⟨x7, rfl, Q⟩ := Q _ _ s6
    exact z_iret (pc := 81) rfl dX6_count_81 Q
  · replace Q := Q.2.2.2.1 c
    refine z_tableIn (pc := 1) (n := 3) (tgt := 82) dX6_count_1 (by omega) (by decide) rfl (by decide) ?_
    refine z_aload_n (pc := 82) (n := 0) dX6_count_82 rfl rfl ?_
    refine z_getR (pc := 83) (q2 := 1) zo_LentParts rfl inT6 (i := 0) (by decide) wf_X6_10 rfl (fun _ _ => rfl) dX6_count_83 ?_
    refine z_getR (pc := 86) (q2 := 7) (zo_State zSt_1) rfl inT4 (i := 5) (by decide) wf_X6_159 rfl (fun _ _ => rfl) dX6_count_86 ?_
    obtain ⟨d8, P9, e12, s13, Q⟩ := Q
    refine z_callV (pc := 89) (M := mX0_sizeOfAll) (as := []) (st := []) s13 (zo_Claims zSt_1) rfl wi_X0_sizeOfAll wm_X0_sizeOfAll ⟨by omega, by decide⟩ wl_X6_222 dX6_count_89 rfl (Nat.le_of_ble_eq_true rfl) rfl ?_
    intro r10 h11 s13
    obtain ⟨x14, rfl, Q⟩ := Q _ _ s13
    exact z_iret (pc := 92) rfl dX6_count_92 Q
  · replace Q := Q.2.2.2.2.1 c
    refine z_tableIn (pc := 1) (n := 4) (tgt := 93) dX6_count_1 (by omega) (by decide) rfl (by decide) ?_
    refine z_aload_n (pc := 93) (n := 0) dX6_count_93 rfl rfl ?_
    refine z_getR (pc := 94) (q2 := 1) zo_LentParts rfl inT6 (i := 0) (by decide) wf_X6_10 rfl (fun _ _ => rfl) dX6_count_94 ?_
    refine z_getI (pc := 97) (zo_State zSt_1) rfl inT4 (i := 7) (by decide) wf_X6_225 rfl (fun _ _ => rfl) dX6_count_97 ?_
    exact z_iret (pc := 100) rfl dX6_count_100 Q
  · replace Q := Q.2.2.2.2.2.1 c
    refine z_tableIn (pc := 1) (n := 5) (tgt := 101) dX6_count_1 (by omega) (by decide) rfl (by decide) ?_
    refine z_aload_n (pc := 101) (n := 0) dX6_count_101 rfl rfl ?_
    refine z_getR (pc := 102) (q2 := 1) zo_LentParts rfl inT6 (i := 0) (by decide) wf_X6_10 rfl (fun _ _ => rfl) dX6_count_102 ?_
    refine z_getR (pc := 105) (q2 := 10) (zo_State zSt_1) rfl inT4 (i := 6) (by decide) wf_X6_141 rfl (fun _ _ => rfl) dX6_count_105 ?_
    refine z_getI (pc := 108) (zo_Loans zSt_1) rfl inT3 (i := 7) (by decide) wf_X6_228 rfl (fun _ _ => rfl) dX6_count_108 ?_
    exact z_iret (pc := 111) rfl dX6_count_111 Q
  · replace Q := Q.2.2.2.2.2.2.1 c
    refine z_tableIn (pc := 1) (n := 6) (tgt := 112) dX6_count_1 (by omega) (by decide) rfl (by decide) ?_
    refine z_aload_n (pc := 112) (n := 0) dX6_count_112 rfl rfl ?_
    refine z_getR (pc := 113) (q2 := 1) zo_LentParts rfl inT6 (i := 0) (by decide) wf_X6_10 rfl (fun _ _ => rfl) dX6_count_113 ?_
    obtain ⟨d15, P16, e19, s20, Q⟩ := Q
    refine z_callV (pc := 116) (M := mX4_countAllHolding) (as := []) (st := []) s20 (zo_State zSt_1) rfl wi_X4_countAllHolding wm_X4_countAllHolding ⟨by omega, by decide⟩ wl_X6_231 dX6_count_116 rfl (Nat.le_of_ble_eq_true rfl) rfl ?_
    intro r17 h18 s20
    obtain ⟨x21, rfl, Q⟩ := Q _ _ s20
    exact z_iret (pc := 119) rfl dX6_count_119 Q
  · replace Q := Q.2.2.2.2.2.2.2.1 c
    refine z_tableIn (pc := 1) (n := 7) (tgt := 120) dX6_count_1 (by omega) (by decide) rfl (by decide) ?_
    refine z_aload_n (pc := 120) (n := 0) dX6_count_120 rfl rfl ?_
    refine z_getR (pc := 121) (q2 := 46) zo_LentParts rfl inT6 (i := 3) (by decide) wf_X6_25 rfl (fun _ _ => rfl) dX6_count_121 ?_
    refine z_callV (pc := 124) (M := mX2_size) (as := []) (st := []) c_X2_size zo_History rfl wi_X2_size wm_X2_size ⟨by omega, by decide⟩ wl_X6_135 dX6_count_124 rfl (Nat.le_of_ble_eq_true rfl) rfl ?_
    rintro _ _ ⟨rfl, rfl⟩
    exact z_iret (pc := 127) rfl dX6_count_127 Q
  · replace Q := Q.2.2.2.2.2.2.2.2.1 c
    refine z_tableIn (pc := 1) (n := 8) (tgt := 128) dX6_count_1 (by omega) (by decide) rfl (by decide) ?_
    refine z_aload_n (pc := 128) (n := 0) dX6_count_128 rfl rfl ?_
    refine z_getR (pc := 129) (q2 := 125) zo_LentParts rfl inT6 (i := 5) (by decide) wf_X6_39 rfl (fun _ _ => rfl) dX6_count_129 ?_
    refine z_callV (pc := 132) (M := mX5_size) (as := []) (st := []) c_X5_size zo_Text rfl wi_X5_size wm_X5_size ⟨by omega, by decide⟩ wl_X6_234 dX6_count_132 rfl (Nat.le_of_ble_eq_true rfl) rfl ?_
    rintro _ _ ⟨rfl, rfl⟩
    exact z_iret (pc := 135) rfl dX6_count_135 Q
  · replace Q := Q.2.2.2.2.2.2.2.2.2 c
    refine z_tableOut (pc := 1) (tgt := 136) dX6_count_1 c (by decide) ?_
    refine z_bipush (pc := 136) (a := -2) dX6_count_136 rfl ?_
    exact z_iret (pc := 138) rfl dX6_count_138 Q
set_option maxHeartbeats 4000000 in
set_option maxRecDepth 100000 in
theorem k_X6_gather_0 {d : Nat} {Post : Option zA → zH → Prop} {Γ : zCx} {h : zH} {a1 : Int} {a2 : Int}  (hd : 1 ≤ d) (Q :
 ∃ (d1 : Nat) (P2 : Option zA → zH → Prop), d1 + 1 ≤ d ∧ zSp d1 mX2_open [zR 46, zR 1] h P2 ∧ ∀ r3 h4, P2 r3 h4 →
 r3 = none ∧
 ∃ (d7 : Nat) (P8 : Option zA → zH → Prop), d7 + 1 ≤ d ∧ zSp d7 mX6_gatherCell [zR 0, zI a1, zI a2] h4 P8 ∧ ∀ r9 h10, P8 r9 h10 →
 ∃ x13 : Int, r9 = some (zI x13) ∧
 ∃ (d14 : Nat) (P15 : Option zA → zH → Prop), d14 + 1 ≤ d ∧ zSp d14 mX6_close [zR 0, zI x13] h10 P15 ∧ ∀ r16 h17, P15 r16 h17 →
 ∃ x20 : Int, r16 = some (zI x20) ∧
 Post (some (zI x20)) h17) :
    zV RX6 cX6_gather 3 (some .int) d Post Γ 0 [(0, zR 0), (1, zI a1), (2, zI a2)] [] h := by
  refine z_aload_n (pc := 0) (n := 0) dX6_gather_0 rfl rfl ?_
  refine z_getR (pc := 1) (q2 := 46) zo_LentParts rfl inT6 (i := 3) (by decide) wf_X6_25 rfl (fun _ _ => rfl) dX6_gather_1 ?_
  refine z_aload_n (pc := 4) (n := 0) dX6_gather_4 rfl rfl ?_
  refine z_getR (pc := 5) (q2 := 1) zo_LentParts rfl inT6 (i := 0) (by decide) wf_X6_10 rfl (fun _ _ => rfl) dX6_gather_5 ?_
  obtain ⟨d1, P2, e5, s6, Q⟩ := Q
  refine z_callV (pc := 8) (M := mX2_open) (as := [_]) (st := []) s6 zo_History rfl wi_X2_open wm_X2_open ⟨by omega, by decide⟩ wl_X6_43 dX6_gather_8 rfl (Nat.le_of_ble_eq_true rfl) rfl ?_
  intro r3 h4 s6
  obtain ⟨rfl, Q⟩ := Q _ _ s6
  refine z_aload_n (pc := 11) (n := 0) dX6_gather_11 rfl rfl ?_
  refine z_aload_n (pc := 12) (n := 0) dX6_gather_12 rfl rfl ?_
  refine z_iload_n (pc := 13) (n := 1) dX6_gather_13 rfl rfl ?_
  refine z_iload_n (pc := 14) (n := 2) dX6_gather_14 rfl rfl ?_
  obtain ⟨d7, P8, e11, s12, Q⟩ := Q
  refine z_callV (pc := 15) (M := mX6_gatherCell) (as := [_, _]) (st := [_]) s12 zo_LentParts rfl wi_X6_gatherCell wm_X6_gatherCell ⟨by omega, by decide⟩ wl_X6_62 dX6_gather_15 rfl (Nat.le_of_ble_eq_true rfl) rfl ?_
  intro r9 h10 s12
  obtain ⟨x13, rfl, Q⟩ := Q _ _ s12
  obtain ⟨d14, P15, e18, s19, Q⟩ := Q
  refine z_callV (pc := 18) (M := mX6_close) (as := [_]) (st := []) s19 zo_LentParts rfl wi_X6_close wm_X6_close ⟨by omega, by decide⟩ wl_X6_51 dX6_gather_18 rfl (Nat.le_of_ble_eq_true rfl) rfl ?_
  intro r16 h17 s19
  obtain ⟨x20, rfl, Q⟩ := Q _ _ s19
  exact z_iret (pc := 21) rfl dX6_gather_21 Q
set_option maxHeartbeats 4000000 in
set_option maxRecDepth 100000 in
theorem k_X6_gatherCell_0 {d : Nat} {Post : Option zA → zH → Prop} {Γ : zCx} {h : zH} {a1 : Int} {a2 : Int}  (hd : 2 ≤ d) (Q :
 ((¬ (0 ≤ a1 ∧ a1 ≤ 5) →
  Post (some (zI (-1))) h) ∧
 (0 ≤ a1 ∧ a1 ≤ 5 →
  ((0 ≤ a2 ∧ a2 ≤ 5 →
   ∃ (d1 : Nat) (P2 : Option zA → zH → Prop), d1 + 1 ≤ d ∧ zSp d1 mX1_run [zR 123, zR 1, zI a1, zI a2] h P2 ∧ ∀ r3 h4, P2 r3 h4 →
   ∃ x7 : Int, r3 = some (zI x7) ∧
   ((¬ x7 = 0 →
    (0 ≤ a1 ∧ a1 ≤ 5) ∧
    (0 ≤ a2 ∧ a2 ≤ 5) ∧
    Post (some (zI (h4 5 (6 * a2 + a1).toNat))) h4) ∧
   (x7 = 0 →
    Post (some (zI (-5))) h4))) ∧
  (¬ (0 ≤ a2 ∧ a2 ≤ 5) →
   Post (some (zI (-1))) h))))) :
    zV RX6 cX6_gatherCell 4 (some .int) d Post Γ 0 [(0, zR 0), (1, zI a1), (2, zI a2)] [] h := by
  refine z_iload_n (pc := 0) (n := 1) dX6_gatherCell_0 rfl rfl ?_
  refine z_callS (pc := 1) (M := mX6_isAgent) (as := [_]) (st := []) c_X6_isAgent wt_X6_isAgent wm_X6_isAgent ⟨by omega, by decide⟩ wl_X6_73 dX6_gatherCell_1 rfl (Nat.le_of_ble_eq_true rfl) rfl ?_
  rintro _ _ ⟨rfl, rfl⟩
  refine z_ifb_eq (pc := 4) (tgt := 14) dX6_gatherCell_4 (by decide) (fun c => ?_) (fun c => ?_)
  · replace Q := Q.1 c
    refine z_iconst (pc := 14) (a := -1) dX6_gatherCell_14 rfl ?_
    exact z_iret (pc := 15) rfl dX6_gatherCell_15 Q
  · replace Q := Q.2 c
    refine z_iload_n (pc := 7) (n := 2) dX6_gatherCell_7 rfl rfl ?_
    refine z_callS (pc := 8) (M := mX6_isCell) (as := [_]) (st := []) c_X6_isCell wt_X6_isCell wm_X6_isCell ⟨by omega, by decide⟩ wl_X6_77 dX6_gatherCell_8 rfl (Nat.le_of_ble_eq_true rfl) rfl ?_
    rintro _ _ ⟨rfl, rfl⟩
    refine z_ifb_ne (pc := 11) (tgt := 16) dX6_gatherCell_11 (by decide) (fun c => ?_) (fun c => ?_)
    · replace Q := Q.1 c
      refine z_aload_n (pc := 16) (n := 0) dX6_gatherCell_16 rfl rfl ?_
      refine z_getR (pc := 17) (q2 := 123) zo_LentParts rfl inT6 (i := 4) (by decide) wf_X6_32 rfl (fun _ _ => rfl) dX6_gatherCell_17 ?_
      refine z_aload_n (pc := 20) (n := 0) dX6_gatherCell_20 rfl rfl ?_
      refine z_getR (pc := 21) (q2 := 1) zo_LentParts rfl inT6 (i := 0) (by decide) wf_X6_10 rfl (fun _ _ => rfl) dX6_gatherCell_21 ?_
      refine z_iload_n (pc := 24) (n := 1) dX6_gatherCell_24 rfl rfl ?_
      refine z_iload_n (pc := 25) (n := 2) dX6_gatherCell_25 rfl rfl ?_
      obtain ⟨d1, P2, e5, s6, Q⟩ := Q
      refine z_callV (pc := 26) (M := mX1_run) (as := [_, _, _]) (st := []) s6 zo_Gathering rfl wi_X1_run wm_X1_run ⟨by omega, by decide⟩ wl_X6_241 dX6_gatherCell_26 rfl (Nat.le_of_ble_eq_true rfl) rfl ?_
      intro r3 h4 s6
      obtain ⟨x7, rfl, Q⟩ := Q _ _ s6
      refine z_istore_n (pc := 29) (ls' := [(3, _), (0, _), (1, _), (2, _)]) dX6_gatherCell_29 rfl (by decide) rfl ?_
      refine z_iload_n (pc := 30) (n := 0) dX6_gatherCell_30 rfl rfl ?_
      refine z_if_ne (pc := 31) (tgt := 39) dX6_gatherCell_31 (by decide) (fun c => ?_) (fun c => ?_)
      · replace Q := Q.1 c
        refine z_aload_n (pc := 39) (n := 1) dX6_gatherCell_39 rfl rfl ?_
        refine z_getR (pc := 40) (q2 := 1) zo_LentParts rfl inT6 (i := 0) (by decide) wf_X6_10 rfl (fun _ _ => rfl) dX6_gatherCell_40 ?_
        refine z_iload_n (pc := 43) (n := 2) dX6_gatherCell_43 rfl rfl ?_
        refine z_iload_n (pc := 44) (n := 3) dX6_gatherCell_44 rfl rfl ?_
        obtain ⟨c8, Q⟩ := Q
        obtain ⟨c9, Q⟩ := Q
        refine z_callV (pc := 45) (M := mX4_heldBy) (as := [_, _]) (st := []) (c_X4_heldBy zSt_1 c8 c9) (zo_State zSt_1) rfl wi_X4_heldBy wm_X4_heldBy ⟨by omega, by decide⟩ wl_X6_80 dX6_gatherCell_45 rfl (Nat.le_of_ble_eq_true rfl) rfl ?_
        rintro _ _ ⟨rfl, rfl⟩
        exact z_iret (pc := 48) rfl dX6_gatherCell_48 Q
      · replace Q := Q.2 c
        refine z_bipush (pc := 34) (a := -5) dX6_gatherCell_34 rfl ?_
        refine z_goto (pc := 36) (tgt := 48) dX6_gatherCell_36 (by decide) ?_
        exact z_iret (pc := 48) rfl dX6_gatherCell_48 Q
    · replace Q := Q.2 c
      refine z_iconst (pc := 14) (a := -1) dX6_gatherCell_14 rfl ?_
      exact z_iret (pc := 15) rfl dX6_gatherCell_15 Q
set_option maxHeartbeats 4000000 in
set_option maxRecDepth 100000 in
theorem k_X6_giveBack_0 {d : Nat} {Post : Option zA → zH → Prop} {Γ : zCx} {h : zH} {a1 : Int}  (hd : 1 ≤ d) (Q :
 ∃ (d1 : Nat) (P2 : Option zA → zH → Prop), d1 + 1 ≤ d ∧ zSp d1 mX2_open [zR 46, zR 1] h P2 ∧ ∀ r3 h4, P2 r3 h4 →
 r3 = none ∧
 ∃ (d7 : Nat) (P8 : Option zA → zH → Prop), d7 + 1 ≤ d ∧ zSp d7 mX4_endLoan [zR 1, zI a1] h4 P8 ∧ ∀ r9 h10, P8 r9 h10 →
 ∃ x13 : Int, r9 = some (zI x13) ∧
 ∃ (d14 : Nat) (P15 : Option zA → zH → Prop), d14 + 1 ≤ d ∧ zSp d14 mX6_close [zR 0, zI x13] h10 P15 ∧ ∀ r16 h17, P15 r16 h17 →
 ∃ x20 : Int, r16 = some (zI x20) ∧
 Post (some (zI x20)) h17) :
    zV RX6 cX6_giveBack 2 (some .int) d Post Γ 0 [(0, zR 0), (1, zI a1)] [] h := by
  refine z_aload_n (pc := 0) (n := 0) dX6_giveBack_0 rfl rfl ?_
  refine z_getR (pc := 1) (q2 := 46) zo_LentParts rfl inT6 (i := 3) (by decide) wf_X6_25 rfl (fun _ _ => rfl) dX6_giveBack_1 ?_
  refine z_aload_n (pc := 4) (n := 0) dX6_giveBack_4 rfl rfl ?_
  refine z_getR (pc := 5) (q2 := 1) zo_LentParts rfl inT6 (i := 0) (by decide) wf_X6_10 rfl (fun _ _ => rfl) dX6_giveBack_5 ?_
  obtain ⟨d1, P2, e5, s6, Q⟩ := Q
  refine z_callV (pc := 8) (M := mX2_open) (as := [_]) (st := []) s6 zo_History rfl wi_X2_open wm_X2_open ⟨by omega, by decide⟩ wl_X6_43 dX6_giveBack_8 rfl (Nat.le_of_ble_eq_true rfl) rfl ?_
  intro r3 h4 s6
  obtain ⟨rfl, Q⟩ := Q _ _ s6
  refine z_aload_n (pc := 11) (n := 0) dX6_giveBack_11 rfl rfl ?_
  refine z_aload_n (pc := 12) (n := 0) dX6_giveBack_12 rfl rfl ?_
  refine z_getR (pc := 13) (q2 := 1) zo_LentParts rfl inT6 (i := 0) (by decide) wf_X6_10 rfl (fun _ _ => rfl) dX6_giveBack_13 ?_
  refine z_iload_n (pc := 16) (n := 1) dX6_giveBack_16 rfl rfl ?_
  obtain ⟨d7, P8, e11, s12, Q⟩ := Q
  refine z_callV (pc := 17) (M := mX4_endLoan) (as := [_]) (st := [_]) s12 (zo_State zSt_1) rfl wi_X4_endLoan wm_X4_endLoan ⟨by omega, by decide⟩ wl_X6_59 dX6_giveBack_17 rfl (Nat.le_of_ble_eq_true rfl) rfl ?_
  intro r9 h10 s12
  obtain ⟨x13, rfl, Q⟩ := Q _ _ s12
  obtain ⟨d14, P15, e18, s19, Q⟩ := Q
  refine z_callV (pc := 20) (M := mX6_close) (as := [_]) (st := []) s19 zo_LentParts rfl wi_X6_close wm_X6_close ⟨by omega, by decide⟩ wl_X6_51 dX6_giveBack_20 rfl (Nat.le_of_ble_eq_true rfl) rfl ?_
  intro r16 h17 s19
  obtain ⟨x20, rfl, Q⟩ := Q _ _ s19
  exact z_iret (pc := 23) rfl dX6_giveBack_23 Q
set_option maxHeartbeats 4000000 in
set_option maxRecDepth 100000 in
theorem k_X6_half_0 {d : Nat} {Post : Option zA → zH → Prop} {Γ : zCx} {h : zH} {a1 : Int} {a2 : Int} {a3 : Int}  (hd : 1 ≤ d) (Q :
 ∃ (d1 : Nat) (P2 : Option zA → zH → Prop), d1 + 1 ≤ d ∧ zSp d1 mX2_open [zR 46, zR 1] h P2 ∧ ∀ r3 h4, P2 r3 h4 →
 r3 = none ∧
 ∃ (d7 : Nat) (P8 : Option zA → zH → Prop), d7 + 1 ≤ d ∧ zSp d7 mX4_makeHalfLoan [zR 1, zI a1, zI a2, zI a3] h4 P8 ∧ ∀ r9 h10, P8 r9 h10 →
 ∃ x13 : Int, r9 = some (zI x13) ∧
 ∃ (d14 : Nat) (P15 : Option zA → zH → Prop), d14 + 1 ≤ d ∧ zSp d14 mX6_close [zR 0, zI x13] h10 P15 ∧ ∀ r16 h17, P15 r16 h17 →
 ∃ x20 : Int, r16 = some (zI x20) ∧
 Post (some (zI x20)) h17) :
    zV RX6 cX6_half 4 (some .int) d Post Γ 0 [(0, zR 0), (1, zI a1), (2, zI a2), (3, zI a3)] [] h := by
  refine z_aload_n (pc := 0) (n := 0) dX6_half_0 rfl rfl ?_
  refine z_getR (pc := 1) (q2 := 46) zo_LentParts rfl inT6 (i := 3) (by decide) wf_X6_25 rfl (fun _ _ => rfl) dX6_half_1 ?_
  refine z_aload_n (pc := 4) (n := 0) dX6_half_4 rfl rfl ?_
  refine z_getR (pc := 5) (q2 := 1) zo_LentParts rfl inT6 (i := 0) (by decide) wf_X6_10 rfl (fun _ _ => rfl) dX6_half_5 ?_
  obtain ⟨d1, P2, e5, s6, Q⟩ := Q
  refine z_callV (pc := 8) (M := mX2_open) (as := [_]) (st := []) s6 zo_History rfl wi_X2_open wm_X2_open ⟨by omega, by decide⟩ wl_X6_43 dX6_half_8 rfl (Nat.le_of_ble_eq_true rfl) rfl ?_
  intro r3 h4 s6
  obtain ⟨rfl, Q⟩ := Q _ _ s6
  refine z_aload_n (pc := 11) (n := 0) dX6_half_11 rfl rfl ?_
  refine z_aload_n (pc := 12) (n := 0) dX6_half_12 rfl rfl ?_
  refine z_getR (pc := 13) (q2 := 1) zo_LentParts rfl inT6 (i := 0) (by decide) wf_X6_10 rfl (fun _ _ => rfl) dX6_half_13 ?_
  refine z_iload_n (pc := 16) (n := 1) dX6_half_16 rfl rfl ?_
  refine z_iload_n (pc := 17) (n := 2) dX6_half_17 rfl rfl ?_
  refine z_iload_n (pc := 18) (n := 3) dX6_half_18 rfl rfl ?_
  obtain ⟨d7, P8, e11, s12, Q⟩ := Q
  refine z_callV (pc := 19) (M := mX4_makeHalfLoan) (as := [_, _, _]) (st := [_]) s12 (zo_State zSt_1) rfl wi_X4_makeHalfLoan wm_X4_makeHalfLoan ⟨by omega, by decide⟩ wl_X6_55 dX6_half_19 rfl (Nat.le_of_ble_eq_true rfl) rfl ?_
  intro r9 h10 s12
  obtain ⟨x13, rfl, Q⟩ := Q _ _ s12
  obtain ⟨d14, P15, e18, s19, Q⟩ := Q
  refine z_callV (pc := 22) (M := mX6_close) (as := [_]) (st := []) s19 zo_LentParts rfl wi_X6_close wm_X6_close ⟨by omega, by decide⟩ wl_X6_51 dX6_half_22 rfl (Nat.le_of_ble_eq_true rfl) rfl ?_
  intro r16 h17 s19
  obtain ⟨x20, rfl, Q⟩ := Q _ _ s19
  exact z_iret (pc := 25) rfl dX6_half_25 Q
set_option maxHeartbeats 4000000 in
set_option maxRecDepth 100000 in
theorem k_X6_handOver_0 {d : Nat} {Post : Option zA → zH → Prop} {Γ : zCx} {h : zH} {a1 : Int} {a2 : Int}  (hd : 1 ≤ d) (Q :
 ∃ (d1 : Nat) (P2 : Option zA → zH → Prop), d1 + 1 ≤ d ∧ zSp d1 mX2_open [zR 46, zR 1] h P2 ∧ ∀ r3 h4, P2 r3 h4 →
 r3 = none ∧
 ∃ (d7 : Nat) (P8 : Option zA → zH → Prop), d7 + 1 ≤ d ∧ zSp d7 mX4_changeOwner [zR 1, zI a1, zI a2] h4 P8 ∧ ∀ r9 h10, P8 r9 h10 →
 ∃ x13 : Int, r9 = some (zI x13) ∧
 ∃ (d14 : Nat) (P15 : Option zA → zH → Prop), d14 + 1 ≤ d ∧ zSp d14 mX6_close [zR 0, zI x13] h10 P15 ∧ ∀ r16 h17, P15 r16 h17 →
 ∃ x20 : Int, r16 = some (zI x20) ∧
 Post (some (zI x20)) h17) :
    zV RX6 cX6_handOver 3 (some .int) d Post Γ 0 [(0, zR 0), (1, zI a1), (2, zI a2)] [] h := by
  refine z_aload_n (pc := 0) (n := 0) dX6_handOver_0 rfl rfl ?_
  refine z_getR (pc := 1) (q2 := 46) zo_LentParts rfl inT6 (i := 3) (by decide) wf_X6_25 rfl (fun _ _ => rfl) dX6_handOver_1 ?_
  refine z_aload_n (pc := 4) (n := 0) dX6_handOver_4 rfl rfl ?_
  refine z_getR (pc := 5) (q2 := 1) zo_LentParts rfl inT6 (i := 0) (by decide) wf_X6_10 rfl (fun _ _ => rfl) dX6_handOver_5 ?_
  obtain ⟨d1, P2, e5, s6, Q⟩ := Q
  refine z_callV (pc := 8) (M := mX2_open) (as := [_]) (st := []) s6 zo_History rfl wi_X2_open wm_X2_open ⟨by omega, by decide⟩ wl_X6_43 dX6_handOver_8 rfl (Nat.le_of_ble_eq_true rfl) rfl ?_
  intro r3 h4 s6
  obtain ⟨rfl, Q⟩ := Q _ _ s6
  refine z_aload_n (pc := 11) (n := 0) dX6_handOver_11 rfl rfl ?_
  refine z_aload_n (pc := 12) (n := 0) dX6_handOver_12 rfl rfl ?_
  refine z_getR (pc := 13) (q2 := 1) zo_LentParts rfl inT6 (i := 0) (by decide) wf_X6_10 rfl (fun _ _ => rfl) dX6_handOver_13 ?_
  refine z_iload_n (pc := 16) (n := 1) dX6_handOver_16 rfl rfl ?_
  refine z_iload_n (pc := 17) (n := 2) dX6_handOver_17 rfl rfl ?_
  obtain ⟨d7, P8, e11, s12, Q⟩ := Q
  refine z_callV (pc := 18) (M := mX4_changeOwner) (as := [_, _]) (st := [_]) s12 (zo_State zSt_1) rfl wi_X4_changeOwner wm_X4_changeOwner ⟨by omega, by decide⟩ wl_X6_93 dX6_handOver_18 rfl (Nat.le_of_ble_eq_true rfl) rfl ?_
  intro r9 h10 s12
  obtain ⟨x13, rfl, Q⟩ := Q _ _ s12
  obtain ⟨d14, P15, e18, s19, Q⟩ := Q
  refine z_callV (pc := 21) (M := mX6_close) (as := [_]) (st := []) s19 zo_LentParts rfl wi_X6_close wm_X6_close ⟨by omega, by decide⟩ wl_X6_51 dX6_handOver_21 rfl (Nat.le_of_ble_eq_true rfl) rfl ?_
  intro r16 h17 s19
  obtain ⟨x20, rfl, Q⟩ := Q _ _ s19
  exact z_iret (pc := 24) rfl dX6_handOver_24 Q
set_option maxHeartbeats 4000000 in
set_option maxRecDepth 100000 in
theorem k_X6_heldAfterGathering_0 {d : Nat} {Post : Option zA → zH → Prop} {Γ : zCx} {h : zH} {a1 : Int} {a2 : Int}  (hd : 2 ≤ d) (Q :
 ∃ (d1 : Nat) (P2 : Option zA → zH → Prop), d1 + 1 ≤ d ∧ zSp d1 mX4_copyFrom [zR 16, zR 1] h P2 ∧ ∀ r3 h4, P2 r3 h4 →
 r3 = none ∧
 ∃ (d7 : Nat) (P8 : Option zA → zH → Prop), d7 + 1 ≤ d ∧ zSp d7 mX1_run [zR 123, zR 16, zI a1, zI a2] h4 P8 ∧ ∀ r9 h10, P8 r9 h10 →
 ∃ x13 : Int, r9 = some (zI x13) ∧
 (0 ≤ a1 ∧ a1 ≤ 5) ∧
 (0 ≤ a2 ∧ a2 ≤ 5) ∧
 Post (some (zI (h10 20 (6 * a2 + a1).toNat))) h10) :
    zV RX6 cX6_heldAfterGathering 3 (some .int) d Post Γ 0 [(0, zR 0), (1, zI a1), (2, zI a2)] [] h := by
  refine z_aload_n (pc := 0) (n := 0) dX6_heldAfterGathering_0 rfl rfl ?_
  refine z_getR (pc := 1) (q2 := 16) zo_LentParts rfl inT6 (i := 1) (by decide) wf_X6_16 rfl (fun _ _ => rfl) dX6_heldAfterGathering_1 ?_
  refine z_aload_n (pc := 4) (n := 0) dX6_heldAfterGathering_4 rfl rfl ?_
  refine z_getR (pc := 5) (q2 := 1) zo_LentParts rfl inT6 (i := 0) (by decide) wf_X6_10 rfl (fun _ _ => rfl) dX6_heldAfterGathering_5 ?_
  obtain ⟨d1, P2, e5, s6, Q⟩ := Q
  refine z_callV (pc := 8) (M := mX4_copyFrom) (as := [_]) (st := []) s6 (zo_State zSt_16) rfl wi_X4_copyFrom wm_X4_copyFrom ⟨by omega, by decide⟩ wl_X6_132 dX6_heldAfterGathering_8 rfl (Nat.le_of_ble_eq_true rfl) rfl ?_
  intro r3 h4 s6
  obtain ⟨rfl, Q⟩ := Q _ _ s6
  refine z_aload_n (pc := 11) (n := 0) dX6_heldAfterGathering_11 rfl rfl ?_
  refine z_getR (pc := 12) (q2 := 123) zo_LentParts rfl inT6 (i := 4) (by decide) wf_X6_32 rfl (fun _ _ => rfl) dX6_heldAfterGathering_12 ?_
  refine z_aload_n (pc := 15) (n := 0) dX6_heldAfterGathering_15 rfl rfl ?_
  refine z_getR (pc := 16) (q2 := 16) zo_LentParts rfl inT6 (i := 1) (by decide) wf_X6_16 rfl (fun _ _ => rfl) dX6_heldAfterGathering_16 ?_
  refine z_iload_n (pc := 19) (n := 1) dX6_heldAfterGathering_19 rfl rfl ?_
  refine z_iload_n (pc := 20) (n := 2) dX6_heldAfterGathering_20 rfl rfl ?_
  obtain ⟨d7, P8, e11, s12, Q⟩ := Q
  refine z_callV (pc := 21) (M := mX1_run) (as := [_, _, _]) (st := []) s12 zo_Gathering rfl wi_X1_run wm_X1_run ⟨by omega, by decide⟩ wl_X6_241 dX6_heldAfterGathering_21 rfl (Nat.le_of_ble_eq_true rfl) rfl ?_
  intro r9 h10 s12
  obtain ⟨x13, rfl, Q⟩ := Q _ _ s12
  refine z_pop (pc := 24) dX6_heldAfterGathering_24 rfl ?_
  refine z_aload_n (pc := 25) (n := 0) dX6_heldAfterGathering_25 rfl rfl ?_
  refine z_getR (pc := 26) (q2 := 16) zo_LentParts rfl inT6 (i := 1) (by decide) wf_X6_16 rfl (fun _ _ => rfl) dX6_heldAfterGathering_26 ?_
  refine z_iload_n (pc := 29) (n := 1) dX6_heldAfterGathering_29 rfl rfl ?_
  refine z_iload_n (pc := 30) (n := 2) dX6_heldAfterGathering_30 rfl rfl ?_
  obtain ⟨c14, Q⟩ := Q
  obtain ⟨c15, Q⟩ := Q
  refine z_callV (pc := 31) (M := mX4_heldBy) (as := [_, _]) (st := []) (c_X4_heldBy zSt_16 c14 c15) (zo_State zSt_16) rfl wi_X4_heldBy wm_X4_heldBy ⟨by omega, by decide⟩ wl_X6_80 dX6_heldAfterGathering_31 rfl (Nat.le_of_ble_eq_true rfl) rfl ?_
  rintro _ _ ⟨rfl, rfl⟩
  exact z_iret (pc := 34) rfl dX6_heldAfterGathering_34 Q
set_option maxHeartbeats 4000000 in
set_option maxRecDepth 100000 in
theorem k_X6_hold_0 {d : Nat} {Post : Option zA → zH → Prop} {Γ : zCx} {h : zH} {a1 : Int} {a2 : Int} {a3 : Int}  (hd : 1 ≤ d) (Q :
 ∃ (d1 : Nat) (P2 : Option zA → zH → Prop), d1 + 1 ≤ d ∧ zSp d1 mX2_open [zR 46, zR 1] h P2 ∧ ∀ r3 h4, P2 r3 h4 →
 r3 = none ∧
 ∃ (d7 : Nat) (P8 : Option zA → zH → Prop), d7 + 1 ≤ d ∧ zSp d7 mX4_setHolding [zR 1, zI a1, zI a2, zI a3] h4 P8 ∧ ∀ r9 h10, P8 r9 h10 →
 ∃ x13 : Int, r9 = some (zI x13) ∧
 ∃ (d14 : Nat) (P15 : Option zA → zH → Prop), d14 + 1 ≤ d ∧ zSp d14 mX6_close [zR 0, zI x13] h10 P15 ∧ ∀ r16 h17, P15 r16 h17 →
 ∃ x20 : Int, r16 = some (zI x20) ∧
 Post (some (zI x20)) h17) :
    zV RX6 cX6_hold 4 (some .int) d Post Γ 0 [(0, zR 0), (1, zI a1), (2, zI a2), (3, zI a3)] [] h := by
  refine z_aload_n (pc := 0) (n := 0) dX6_hold_0 rfl rfl ?_
  refine z_getR (pc := 1) (q2 := 46) zo_LentParts rfl inT6 (i := 3) (by decide) wf_X6_25 rfl (fun _ _ => rfl) dX6_hold_1 ?_
  refine z_aload_n (pc := 4) (n := 0) dX6_hold_4 rfl rfl ?_
  refine z_getR (pc := 5) (q2 := 1) zo_LentParts rfl inT6 (i := 0) (by decide) wf_X6_10 rfl (fun _ _ => rfl) dX6_hold_5 ?_
  obtain ⟨d1, P2, e5, s6, Q⟩ := Q
  refine z_callV (pc := 8) (M := mX2_open) (as := [_]) (st := []) s6 zo_History rfl wi_X2_open wm_X2_open ⟨by omega, by decide⟩ wl_X6_43 dX6_hold_8 rfl (Nat.le_of_ble_eq_true rfl) rfl ?_
  intro r3 h4 s6
  obtain ⟨rfl, Q⟩ := Q _ _ s6
  refine z_aload_n (pc := 11) (n := 0) dX6_hold_11 rfl rfl ?_
  refine z_aload_n (pc := 12) (n := 0) dX6_hold_12 rfl rfl ?_
  refine z_getR (pc := 13) (q2 := 1) zo_LentParts rfl inT6 (i := 0) (by decide) wf_X6_10 rfl (fun _ _ => rfl) dX6_hold_13 ?_
  refine z_iload_n (pc := 16) (n := 1) dX6_hold_16 rfl rfl ?_
  refine z_iload_n (pc := 17) (n := 2) dX6_hold_17 rfl rfl ?_
  refine z_iload_n (pc := 18) (n := 3) dX6_hold_18 rfl rfl ?_
  obtain ⟨d7, P8, e11, s12, Q⟩ := Q
  refine z_callV (pc := 19) (M := mX4_setHolding) (as := [_, _, _]) (st := [_]) s12 (zo_State zSt_1) rfl wi_X4_setHolding wm_X4_setHolding ⟨by omega, by decide⟩ wl_X6_66 dX6_hold_19 rfl (Nat.le_of_ble_eq_true rfl) rfl ?_
  intro r9 h10 s12
  obtain ⟨x13, rfl, Q⟩ := Q _ _ s12
  obtain ⟨d14, P15, e18, s19, Q⟩ := Q
  refine z_callV (pc := 22) (M := mX6_close) (as := [_]) (st := []) s19 zo_LentParts rfl wi_X6_close wm_X6_close ⟨by omega, by decide⟩ wl_X6_51 dX6_hold_22 rfl (Nat.le_of_ble_eq_true rfl) rfl ?_
  intro r16 h17 s19
  obtain ⟨x20, rfl, Q⟩ := Q _ _ s19
  exact z_iret (pc := 25) rfl dX6_hold_25 Q
set_option maxHeartbeats 4000000 in
set_option maxRecDepth 100000 in
theorem k_X6_lend_0 {d : Nat} {Post : Option zA → zH → Prop} {Γ : zCx} {h : zH} {a1 : Int} {a2 : Int} {a3 : Int} {a4 : Int}  (hd : 1 ≤ d) (Q :
 ∃ (d1 : Nat) (P2 : Option zA → zH → Prop), d1 + 1 ≤ d ∧ zSp d1 mX2_open [zR 46, zR 1] h P2 ∧ ∀ r3 h4, P2 r3 h4 →
 r3 = none ∧
 ∃ (d7 : Nat) (P8 : Option zA → zH → Prop), d7 + 1 ≤ d ∧ zSp d7 mX4_makeLoan [zR 1, zI a1, zI a2, zI a3, zI a4] h4 P8 ∧ ∀ r9 h10, P8 r9 h10 →
 ∃ x13 : Int, r9 = some (zI x13) ∧
 ∃ (d14 : Nat) (P15 : Option zA → zH → Prop), d14 + 1 ≤ d ∧ zSp d14 mX6_close [zR 0, zI x13] h10 P15 ∧ ∀ r16 h17, P15 r16 h17 →
 ∃ x20 : Int, r16 = some (zI x20) ∧
 Post (some (zI x20)) h17) :
    zV RX6 cX6_lend 5 (some .int) d Post Γ 0 [(0, zR 0), (1, zI a1), (2, zI a2), (3, zI a3), (4, zI a4)] [] h := by
  refine z_aload_n (pc := 0) (n := 0) dX6_lend_0 rfl rfl ?_
  refine z_getR (pc := 1) (q2 := 46) zo_LentParts rfl inT6 (i := 3) (by decide) wf_X6_25 rfl (fun _ _ => rfl) dX6_lend_1 ?_
  refine z_aload_n (pc := 4) (n := 0) dX6_lend_4 rfl rfl ?_
  refine z_getR (pc := 5) (q2 := 1) zo_LentParts rfl inT6 (i := 0) (by decide) wf_X6_10 rfl (fun _ _ => rfl) dX6_lend_5 ?_
  obtain ⟨d1, P2, e5, s6, Q⟩ := Q
  refine z_callV (pc := 8) (M := mX2_open) (as := [_]) (st := []) s6 zo_History rfl wi_X2_open wm_X2_open ⟨by omega, by decide⟩ wl_X6_43 dX6_lend_8 rfl (Nat.le_of_ble_eq_true rfl) rfl ?_
  intro r3 h4 s6
  obtain ⟨rfl, Q⟩ := Q _ _ s6
  refine z_aload_n (pc := 11) (n := 0) dX6_lend_11 rfl rfl ?_
  refine z_aload_n (pc := 12) (n := 0) dX6_lend_12 rfl rfl ?_
  refine z_getR (pc := 13) (q2 := 1) zo_LentParts rfl inT6 (i := 0) (by decide) wf_X6_10 rfl (fun _ _ => rfl) dX6_lend_13 ?_
  refine z_iload_n (pc := 16) (n := 1) dX6_lend_16 rfl rfl ?_
  refine z_iload_n (pc := 17) (n := 2) dX6_lend_17 rfl rfl ?_
  refine z_iload_n (pc := 18) (n := 3) dX6_lend_18 rfl rfl ?_
  refine z_iload (pc := 19) (n := 4) dX6_lend_19 rfl ?_
  obtain ⟨d7, P8, e11, s12, Q⟩ := Q
  refine z_callV (pc := 21) (M := mX4_makeLoan) (as := [_, _, _, _]) (st := [_]) s12 (zo_State zSt_1) rfl wi_X4_makeLoan wm_X4_makeLoan ⟨by omega, by decide⟩ wl_X6_47 dX6_lend_21 rfl (Nat.le_of_ble_eq_true rfl) rfl ?_
  intro r9 h10 s12
  obtain ⟨x13, rfl, Q⟩ := Q _ _ s12
  obtain ⟨d14, P15, e18, s19, Q⟩ := Q
  refine z_callV (pc := 24) (M := mX6_close) (as := [_]) (st := []) s19 zo_LentParts rfl wi_X6_close wm_X6_close ⟨by omega, by decide⟩ wl_X6_51 dX6_lend_24 rfl (Nat.le_of_ble_eq_true rfl) rfl ?_
  intro r16 h17 s19
  obtain ⟨x20, rfl, Q⟩ := Q _ _ s19
  exact z_iret (pc := 27) rfl dX6_lend_27 Q
set_option maxHeartbeats 4000000 in
set_option maxRecDepth 100000 in
theorem k_X6_loan_0 {d : Nat} {Post : Option zA → zH → Prop} {Γ : zCx} {h : zH} {a1 : Int} {a2 : Int}  (hd : 1 ≤ d) (Q :
 ∃ (d1 : Nat) (P2 : Option zA → zH → Prop), d1 + 1 ≤ d ∧ zSp d1 mX3_rowOf [zR 10, zI a1] h P2 ∧ ∀ r3 h4, P2 r3 h4 →
 ∃ x7 : Int, r3 = some (zI x7) ∧
 ((0 ≤ x7 →
  ((a2 = 0 →
   0 ≤ x7 ∧ x7 < 40 ∧
   Post (some (zI (h4 12 x7.toNat))) h4) ∧
  (a2 = 1 →
   0 ≤ x7 ∧ x7 < 40 ∧
   Post (some (zI (h4 13 x7.toNat))) h4) ∧
  (a2 = 2 →
   0 ≤ x7 ∧ x7 < 40 ∧
   Post (some (zI (h4 14 x7.toNat))) h4) ∧
  (a2 = 3 →
   0 ≤ x7 ∧ x7 < 40 ∧
   Post (some (zI (h4 15 x7.toNat))) h4) ∧
  (a2 = 4 →
   ∃ (d16 : Nat) (P17 : Option zA → zH → Prop), d16 + 1 ≤ d ∧ zSp d16 mX4_canEndLoan [zR 1, zI x7] h4 P17 ∧ ∀ r18 h19, P17 r18 h19 →
   ∃ x22 : Int, r18 = some (zI x22) ∧
   ((x22 = 0 →
    Post (some (zI 0)) h19) ∧
   (¬ x22 = 0 →
    Post (some (zI 1)) h19))) ∧
  ((a2 < 0 ∨ 4 < a2) →
   Post (some (zI (-2))) h4))) ∧
 (¬ 0 ≤ x7 →
  Post (some (zI (-1))) h4))) :
    zV RX6 cX6_loan 4 (some .int) d Post Γ 0 [(0, zR 0), (1, zI a1), (2, zI a2)] [] h := by
  refine z_aload_n (pc := 0) (n := 0) dX6_loan_0 rfl rfl ?_
  refine z_getR (pc := 1) (q2 := 1) zo_LentParts rfl inT6 (i := 0) (by decide) wf_X6_10 rfl (fun _ _ => rfl) dX6_loan_1 ?_
  refine z_getR (pc := 4) (q2 := 10) (zo_State zSt_1) rfl inT4 (i := 6) (by decide) wf_X6_141 rfl (fun _ _ => rfl) dX6_loan_4 ?_
  refine z_iload_n (pc := 7) (n := 1) dX6_loan_7 rfl rfl ?_
  obtain ⟨d1, P2, e5, s6, Q⟩ := Q
  refine z_callV (pc := 8) (M := mX3_rowOf) (as := [_]) (st := []) s6 (zo_Loans zSt_1) rfl wi_X3_rowOf wm_X3_rowOf ⟨by omega, by decide⟩ wl_X6_195 dX6_loan_8 rfl (Nat.le_of_ble_eq_true rfl) rfl ?_
  intro r3 h4 s6
  obtain ⟨x7, rfl, Q⟩ := Q _ _ s6
  refine z_istore_n (pc := 11) (ls' := [(3, _), (0, _), (1, _), (2, _)]) dX6_loan_11 rfl (by decide) rfl ?_
  refine z_iload_n (pc := 12) (n := 0) dX6_loan_12 rfl rfl ?_
  refine z_if_ge (pc := 13) (tgt := 18) dX6_loan_13 (by decide) (fun c => ?_) (fun c => ?_)
  · replace Q := Q.1 c
    refine z_iload_n (pc := 18) (n := 3) dX6_loan_18 rfl rfl ?_
    rcases (show a2 = 0 ∨ a2 = 1 ∨ a2 = 2 ∨ a2 = 3 ∨ a2 = 4 ∨ (a2 < 0 ∨ 4 < a2) by omega) with c | c | c | c | c | c
    · replace Q := Q.1 c
      refine z_tableIn (pc := 19) (n := 0) (tgt := 52) dX6_loan_19 (by omega) (by decide) rfl (by decide) ?_
      refine z_aload_n (pc := 52) (n := 1) dX6_loan_52 rfl rfl ?_
      refine z_getR (pc := 53) (q2 := 1) zo_LentParts rfl inT6 (i := 0) (by decide) wf_X6_10 rfl (fun _ _ => rfl) dX6_loan_53 ?_
      refine z_getR (pc := 56) (q2 := 10) (zo_State zSt_1) rfl inT4 (i := 6) (by decide) wf_X6_141 rfl (fun _ _ => rfl) dX6_loan_56 ?_
      refine z_getR (pc := 59) (q2 := 12) (zo_Loans zSt_1) rfl inT3 (i := 1) (by decide) wf_X6_198 rfl (fun _ _ => rfl) dX6_loan_59 ?_
      refine z_iload_n (pc := 62) (n := 0) dX6_loan_62 rfl rfl ?_
      obtain ⟨c8, c9, Q⟩ := Q
      refine z_iald (pc := 63) (za_lender zSt_1) c8 c9 dX6_loan_63 ?_
      exact z_iret (pc := 64) rfl dX6_loan_64 Q
    · replace Q := Q.2.1 c
      refine z_tableIn (pc := 19) (n := 1) (tgt := 65) dX6_loan_19 (by omega) (by decide) rfl (by decide) ?_
      refine z_aload_n (pc := 65) (n := 1) dX6_loan_65 rfl rfl ?_
      refine z_getR (pc := 66) (q2 := 1) zo_LentParts rfl inT6 (i := 0) (by decide) wf_X6_10 rfl (fun _ _ => rfl) dX6_loan_66 ?_
      refine z_getR (pc := 69) (q2 := 10) (zo_State zSt_1) rfl inT4 (i := 6) (by decide) wf_X6_141 rfl (fun _ _ => rfl) dX6_loan_69 ?_
      refine z_getR (pc := 72) (q2 := 13) (zo_Loans zSt_1) rfl inT3 (i := 2) (by decide) wf_X6_201 rfl (fun _ _ => rfl) dX6_loan_72 ?_
      refine z_iload_n (pc := 75) (n := 0) dX6_loan_75 rfl rfl ?_
      obtain ⟨c10, c11, Q⟩ := Q
      refine z_iald (pc := 76) (za_borrower zSt_1) c10 c11 dX6_loan_76 ?_
      exact z_iret (pc := 77) rfl dX6_loan_77 Q
    · replace Q := Q.2.2.1 c
      refine z_tableIn (pc := 19) (n := 2) (tgt := 78) dX6_loan_19 (by omega) (by decide) rfl (by decide) ?_
      refine z_aload_n (pc := 78) (n := 1) dX6_loan_78 rfl rfl ?_
      refine z_getR (pc := 79) (q2 := 1) zo_LentParts rfl inT6 (i := 0) (by decide) wf_X6_10 rfl (fun _ _ => rfl) dX6_loan_79 ?_
      refine z_getR (pc := 82) (q2 := 10) (zo_State zSt_1) rfl inT4 (i := 6) (by decide) wf_X6_141 rfl (fun _ _ => rfl) dX6_loan_82 ?_
      refine z_getR (pc := 85) (q2 := 14) (zo_Loans zSt_1) rfl inT3 (i := 3) (by decide) wf_X6_204 rfl (fun _ _ => rfl) dX6_loan_85 ?_
      refine z_iload_n (pc := 88) (n := 0) dX6_loan_88 rfl rfl ?_
      obtain ⟨c12, c13, Q⟩ := Q
      refine z_iald (pc := 89) (za_lcell zSt_1) c12 c13 dX6_loan_89 ?_
      exact z_iret (pc := 90) rfl dX6_loan_90 Q
    · replace Q := Q.2.2.2.1 c
      refine z_tableIn (pc := 19) (n := 3) (tgt := 91) dX6_loan_19 (by omega) (by decide) rfl (by decide) ?_
      refine z_aload_n (pc := 91) (n := 1) dX6_loan_91 rfl rfl ?_
      refine z_getR (pc := 92) (q2 := 1) zo_LentParts rfl inT6 (i := 0) (by decide) wf_X6_10 rfl (fun _ _ => rfl) dX6_loan_92 ?_
      refine z_getR (pc := 95) (q2 := 10) (zo_State zSt_1) rfl inT4 (i := 6) (by decide) wf_X6_141 rfl (fun _ _ => rfl) dX6_loan_95 ?_
      refine z_getR (pc := 98) (q2 := 15) (zo_Loans zSt_1) rfl inT3 (i := 4) (by decide) wf_X6_207 rfl (fun _ _ => rfl) dX6_loan_98 ?_
      refine z_iload_n (pc := 101) (n := 0) dX6_loan_101 rfl rfl ?_
      obtain ⟨c14, c15, Q⟩ := Q
      refine z_iald (pc := 102) (za_parts zSt_1) c14 c15 dX6_loan_102 ?_
      exact z_iret (pc := 103) rfl dX6_loan_103 Q
    · replace Q := Q.2.2.2.2.1 c
      refine z_tableIn (pc := 19) (n := 4) (tgt := 104) dX6_loan_19 (by omega) (by decide) rfl (by decide) ?_
      refine z_aload_n (pc := 104) (n := 1) dX6_loan_104 rfl rfl ?_
      refine z_getR (pc := 105) (q2 := 1) zo_LentParts rfl inT6 (i := 0) (by decide) wf_X6_10 rfl (fun _ _ => rfl) dX6_loan_105 ?_
      refine z_iload_n (pc := 108) (n := 0) dX6_loan_108 rfl rfl ?_
      obtain ⟨d16, P17, e20, s21, Q⟩ := Q
      refine z_callV (pc := 109) (M := mX4_canEndLoan) (as := [_]) (st := []) s21 (zo_State zSt_1) rfl wi_X4_canEndLoan wm_X4_canEndLoan ⟨by omega, by decide⟩ wl_X6_210 dX6_loan_109 rfl (Nat.le_of_ble_eq_true rfl) rfl ?_
      intro r18 h19 s21
      obtain ⟨x22, rfl, Q⟩ := Q _ _ s21
      refine z_if_eq (pc := 112) (tgt := 119) dX6_loan_112 (by decide) (fun c => ?_) (fun c => ?_)
      · replace Q := Q.1 c
        refine z_iconst (pc := 119) (a := 0) dX6_loan_119 rfl ?_
        exact z_iret (pc := 120) rfl dX6_loan_120 Q
      · replace Q := Q.2 c
        refine z_iconst (pc := 115) (a := 1) dX6_loan_115 rfl ?_
        refine z_goto (pc := 116) (tgt := 120) dX6_loan_116 (by decide) ?_
        exact z_iret (pc := 120) rfl dX6_loan_120 Q
    · replace Q := Q.2.2.2.2.2 c
      refine z_tableOut (pc := 19) (tgt := 121) dX6_loan_19 c (by decide) ?_
      refine z_bipush (pc := 121) (a := -2) dX6_loan_121 rfl ?_
      exact z_iret (pc := 123) rfl dX6_loan_123 Q
  · replace Q := Q.2 c
    refine z_iconst (pc := 16) (a := -1) dX6_loan_16 rfl ?_
    exact z_iret (pc := 17) rfl dX6_loan_17 Q
set_option maxHeartbeats 4000000 in
set_option maxRecDepth 100000 in
theorem k_X6_part_0 {d : Nat} {Post : Option zA → zH → Prop} {Γ : zCx} {h : zH} {a1 : Int} {a2 : Int} {a3 : Int}  (hd : 2 ≤ d) (Q :
 ((¬ (0 ≤ a1 ∧ a1 ≤ 5) →
  Post (some (zI (-1))) h) ∧
 (0 ≤ a1 ∧ a1 ≤ 5 →
  ((0 ≤ a2 ∧ a2 ≤ 5 →
   ((a3 = 0 →
    (0 ≤ a1 ∧ a1 ≤ 5) ∧
    (0 ≤ a2 ∧ a2 ≤ 5) ∧
    Post (some (zI (h 5 (6 * a2 + a1).toNat))) h) ∧
   (a3 = 1 →
    ∃ (d3 : Nat) (P4 : Option zA → zH → Prop), d3 + 1 ≤ d ∧ zSp d3 mX3_partsLent [zR 10, zI a1, zI a2] h P4 ∧ ∀ r5 h6, P4 r5 h6 →
    ∃ x9 : Int, r5 = some (zI x9) ∧
    Post (some (zI x9)) h6) ∧
   (a3 = 2 →
    ∃ (d10 : Nat) (P11 : Option zA → zH → Prop), d10 + 1 ≤ d ∧ zSp d10 mX3_partsBorrowed [zR 10, zI a1, zI a2] h P11 ∧ ∀ r12 h13, P11 r12 h13 →
    ∃ x16 : Int, r12 = some (zI x16) ∧
    Post (some (zI x16)) h13) ∧
   (a3 = 3 →
    (0 ≤ a1 ∧ a1 ≤ 5) ∧
    (0 ≤ a2 ∧ a2 ≤ 5) ∧
    ((¬ (¬ zand (h 6 a2.toNat) (zshl 1 a1) = 0) →
     Post (some (zI 0)) h) ∧
    (¬ zand (h 6 a2.toNat) (zshl 1 a1) = 0 →
     Post (some (zI 1)) h))) ∧
   (a3 = 4 →
    ∃ (d19 : Nat) (P20 : Option zA → zH → Prop), d19 + 1 ≤ d ∧ zSp d19 mX0_placeOf [zR 7, zI a1, zI a2] h P20 ∧ ∀ r21 h22, P20 r21 h22 →
    ∃ x25 : Int, r21 = some (zI x25) ∧
    Post (some (zI x25)) h22) ∧
   (a3 = 5 →
    ∃ (d26 : Nat) (P27 : Option zA → zH → Prop), d26 + 1 ≤ d ∧ zSp d26 mX6_heldAfterGathering [zR 0, zI a1, zI a2] h P27 ∧ ∀ r28 h29, P27 r28 h29 →
    ∃ x32 : Int, r28 = some (zI x32) ∧
    Post (some (zI x32)) h29) ∧
   ((a3 < 0 ∨ 5 < a3) →
    Post (some (zI (-2))) h))) ∧
  (¬ (0 ≤ a2 ∧ a2 ≤ 5) →
   Post (some (zI (-1))) h))))) :
    zV RX6 cX6_part 4 (some .int) d Post Γ 0 [(0, zR 0), (1, zI a1), (2, zI a2), (3, zI a3)] [] h := by
  refine z_iload_n (pc := 0) (n := 1) dX6_part_0 rfl rfl ?_
  refine z_callS (pc := 1) (M := mX6_isAgent) (as := [_]) (st := []) c_X6_isAgent wt_X6_isAgent wm_X6_isAgent ⟨by omega, by decide⟩ wl_X6_73 dX6_part_1 rfl (Nat.le_of_ble_eq_true rfl) rfl ?_
  rintro _ _ ⟨rfl, rfl⟩
  refine z_ifb_eq (pc := 4) (tgt := 14) dX6_part_4 (by decide) (fun c => ?_) (fun c => ?_)
  · replace Q := Q.1 c
    refine z_iconst (pc := 14) (a := -1) dX6_part_14 rfl ?_
    exact z_iret (pc := 15) rfl dX6_part_15 Q
  · replace Q := Q.2 c
    refine z_iload_n (pc := 7) (n := 2) dX6_part_7 rfl rfl ?_
    refine z_callS (pc := 8) (M := mX6_isCell) (as := [_]) (st := []) c_X6_isCell wt_X6_isCell wm_X6_isCell ⟨by omega, by decide⟩ wl_X6_77 dX6_part_8 rfl (Nat.le_of_ble_eq_true rfl) rfl ?_
    rintro _ _ ⟨rfl, rfl⟩
    refine z_ifb_ne (pc := 11) (tgt := 16) dX6_part_11 (by decide) (fun c => ?_) (fun c => ?_)
    · replace Q := Q.1 c
      refine z_iload_n (pc := 16) (n := 3) dX6_part_16 rfl rfl ?_
      rcases (show a3 = 0 ∨ a3 = 1 ∨ a3 = 2 ∨ a3 = 3 ∨ a3 = 4 ∨ a3 = 5 ∨ (a3 < 0 ∨ 5 < a3) by omega) with c | c | c | c | c | c | c
      · replace Q := Q.1 c
        refine z_tableIn (pc := 17) (n := 0) (tgt := 56) dX6_part_17 (by omega) (by decide) rfl (by decide) ?_
        refine z_aload_n (pc := 56) (n := 0) dX6_part_56 rfl rfl ?_
        refine z_getR (pc := 57) (q2 := 1) zo_LentParts rfl inT6 (i := 0) (by decide) wf_X6_10 rfl (fun _ _ => rfl) dX6_part_57 ?_
        refine z_iload_n (pc := 60) (n := 1) dX6_part_60 rfl rfl ?_
        refine z_iload_n (pc := 61) (n := 2) dX6_part_61 rfl rfl ?_
        obtain ⟨c1, Q⟩ := Q
        obtain ⟨c2, Q⟩ := Q
        refine z_callV (pc := 62) (M := mX4_heldBy) (as := [_, _]) (st := []) (c_X4_heldBy zSt_1 c1 c2) (zo_State zSt_1) rfl wi_X4_heldBy wm_X4_heldBy ⟨by omega, by decide⟩ wl_X6_80 dX6_part_62 rfl (Nat.le_of_ble_eq_true rfl) rfl ?_
        rintro _ _ ⟨rfl, rfl⟩
        exact z_iret (pc := 65) rfl dX6_part_65 Q
      · replace Q := Q.2.1 c
        refine z_tableIn (pc := 17) (n := 1) (tgt := 66) dX6_part_17 (by omega) (by decide) rfl (by decide) ?_
        refine z_aload_n (pc := 66) (n := 0) dX6_part_66 rfl rfl ?_
        refine z_getR (pc := 67) (q2 := 1) zo_LentParts rfl inT6 (i := 0) (by decide) wf_X6_10 rfl (fun _ _ => rfl) dX6_part_67 ?_
        refine z_getR (pc := 70) (q2 := 10) (zo_State zSt_1) rfl inT4 (i := 6) (by decide) wf_X6_141 rfl (fun _ _ => rfl) dX6_part_70 ?_
        refine z_iload_n (pc := 73) (n := 1) dX6_part_73 rfl rfl ?_
        refine z_iload_n (pc := 74) (n := 2) dX6_part_74 rfl rfl ?_
        obtain ⟨d3, P4, e7, s8, Q⟩ := Q
        refine z_callV (pc := 75) (M := mX3_partsLent) (as := [_, _]) (st := []) s8 (zo_Loans zSt_1) rfl wi_X3_partsLent wm_X3_partsLent ⟨by omega, by decide⟩ wl_X6_179 dX6_part_75 rfl (Nat.le_of_ble_eq_true rfl) rfl ?_
        intro r5 h6 s8
        obtain ⟨x9, rfl, Q⟩ := Q _ _ s8
        exact z_iret (pc := 78) rfl dX6_part_78 Q
      · replace Q := Q.2.2.1 c
        refine z_tableIn (pc := 17) (n := 2) (tgt := 79) dX6_part_17 (by omega) (by decide) rfl (by decide) ?_
        refine z_aload_n (pc := 79) (n := 0) dX6_part_79 rfl rfl ?_
        refine z_getR (pc := 80) (q2 := 1) zo_LentParts rfl inT6 (i := 0) (by decide) wf_X6_10 rfl (fun _ _ => rfl) dX6_part_80 ?_
        refine z_getR (pc := 83) (q2 := 10) (zo_State zSt_1) rfl inT4 (i := 6) (by decide) wf_X6_141 rfl (fun _ _ => rfl) dX6_part_83 ?_
        refine z_iload_n (pc := 86) (n := 1) dX6_part_86 rfl rfl ?_
        refine z_iload_n (pc := 87) (n := 2) dX6_part_87 rfl rfl ?_
        obtain ⟨d10, P11, e14, s15, Q⟩ := Q
        refine z_callV (pc := 88) (M := mX3_partsBorrowed) (as := [_, _]) (st := []) s15 (zo_Loans zSt_1) rfl wi_X3_partsBorrowed wm_X3_partsBorrowed ⟨by omega, by decide⟩ wl_X6_182 dX6_part_88 rfl (Nat.le_of_ble_eq_true rfl) rfl ?_
        intro r12 h13 s15
        obtain ⟨x16, rfl, Q⟩ := Q _ _ s15
        exact z_iret (pc := 91) rfl dX6_part_91 Q
      · replace Q := Q.2.2.2.1 c
        refine z_tableIn (pc := 17) (n := 3) (tgt := 92) dX6_part_17 (by omega) (by decide) rfl (by decide) ?_
        refine z_aload_n (pc := 92) (n := 0) dX6_part_92 rfl rfl ?_
        refine z_getR (pc := 93) (q2 := 1) zo_LentParts rfl inT6 (i := 0) (by decide) wf_X6_10 rfl (fun _ _ => rfl) dX6_part_93 ?_
        refine z_iload_n (pc := 96) (n := 1) dX6_part_96 rfl rfl ?_
        refine z_iload_n (pc := 97) (n := 2) dX6_part_97 rfl rfl ?_
        obtain ⟨c17, Q⟩ := Q
        obtain ⟨c18, Q⟩ := Q
        refine z_callV (pc := 98) (M := mX4_isHolding) (as := [_, _]) (st := []) (c_X4_isHolding zSt_1 c17 c18) (zo_State zSt_1) rfl wi_X4_isHolding wm_X4_isHolding ⟨by omega, by decide⟩ wl_X6_185 dX6_part_98 rfl (Nat.le_of_ble_eq_true rfl) rfl ?_
        rintro _ _ ⟨rfl, rfl⟩
        refine z_ifb_eq (pc := 101) (tgt := 108) dX6_part_101 (by decide) (fun c => ?_) (fun c => ?_)
        · replace Q := Q.1 c
          refine z_iconst (pc := 108) (a := 0) dX6_part_108 rfl ?_
          exact z_iret (pc := 109) rfl dX6_part_109 Q
        · replace Q := Q.2 c
          refine z_iconst (pc := 104) (a := 1) dX6_part_104 rfl ?_
          refine z_goto (pc := 105) (tgt := 109) dX6_part_105 (by decide) ?_
          exact z_iret (pc := 109) rfl dX6_part_109 Q
      · replace Q := Q.2.2.2.2.1 c
        refine z_tableIn (pc := 17) (n := 4) (tgt := 110) dX6_part_17 (by omega) (by decide) rfl (by decide) ?_
        refine z_aload_n (pc := 110) (n := 0) dX6_part_110 rfl rfl ?_
        refine z_getR (pc := 111) (q2 := 1) zo_LentParts rfl inT6 (i := 0) (by decide) wf_X6_10 rfl (fun _ _ => rfl) dX6_part_111 ?_
        refine z_getR (pc := 114) (q2 := 7) (zo_State zSt_1) rfl inT4 (i := 5) (by decide) wf_X6_159 rfl (fun _ _ => rfl) dX6_part_114 ?_
        refine z_iload_n (pc := 117) (n := 1) dX6_part_117 rfl rfl ?_
        refine z_iload_n (pc := 118) (n := 2) dX6_part_118 rfl rfl ?_
        obtain ⟨d19, P20, e23, s24, Q⟩ := Q
        refine z_callV (pc := 119) (M := mX0_placeOf) (as := [_, _]) (st := []) s24 (zo_Claims zSt_1) rfl wi_X0_placeOf wm_X0_placeOf ⟨by omega, by decide⟩ wl_X6_189 dX6_part_119 rfl (Nat.le_of_ble_eq_true rfl) rfl ?_
        intro r21 h22 s24
        obtain ⟨x25, rfl, Q⟩ := Q _ _ s24
        exact z_iret (pc := 122) rfl dX6_part_122 Q
      · replace Q := Q.2.2.2.2.2.1 c
        refine z_tableIn (pc := 17) (n := 5) (tgt := 123) dX6_part_17 (by omega) (by decide) rfl (by decide) ?_
        refine z_aload_n (pc := 123) (n := 0) dX6_part_123 rfl rfl ?_
        refine z_iload_n (pc := 124) (n := 1) dX6_part_124 rfl rfl ?_
        refine z_iload_n (pc := 125) (n := 2) dX6_part_125 rfl rfl ?_
        obtain ⟨d26, P27, e30, s31, Q⟩ := Q
        refine z_callV (pc := 126) (M := mX6_heldAfterGathering) (as := [_, _]) (st := []) s31 zo_LentParts rfl wi_X6_heldAfterGathering wm_X6_heldAfterGathering ⟨by omega, by decide⟩ wl_X6_192 dX6_part_126 rfl (Nat.le_of_ble_eq_true rfl) rfl ?_
        intro r28 h29 s31
        obtain ⟨x32, rfl, Q⟩ := Q _ _ s31
        exact z_iret (pc := 129) rfl dX6_part_129 Q
      · replace Q := Q.2.2.2.2.2.2 c
        refine z_tableOut (pc := 17) (tgt := 130) dX6_part_17 c (by decide) ?_
        refine z_bipush (pc := 130) (a := -2) dX6_part_130 rfl ?_
        exact z_iret (pc := 132) rfl dX6_part_132 Q
    · replace Q := Q.2 c
      refine z_iconst (pc := 14) (a := -1) dX6_part_14 rfl ?_
      exact z_iret (pc := 15) rfl dX6_part_15 Q
set_option maxHeartbeats 4000000 in
set_option maxRecDepth 100000 in
theorem k_X6_read_0 {d : Nat} {Post : Option zA → zH → Prop} {Γ : zCx} {h : zH} {a1 : Int} {a2 : Int}  (hd : 2 ≤ d) (Q :
 ((¬ (0 ≤ a1 ∧ a1 ≤ 5) →
  Post (some (zI (-1))) h) ∧
 (0 ≤ a1 ∧ a1 ≤ 5 →
  ((0 ≤ a2 ∧ a2 ≤ 5 →
   (0 ≤ a1 ∧ a1 ≤ 5) ∧
   (0 ≤ a2 ∧ a2 ≤ 5) ∧
   ((¬ (h 5 (6 * a2 + a1).toNat) = 0 →
    0 ≤ a2 ∧ a2 < 6 ∧
    Post (some (zI (h 2 a2.toNat))) h) ∧
   ((h 5 (6 * a2 + a1).toNat) = 0 →
    Post (some (zI (-4))) h))) ∧
  (¬ (0 ≤ a2 ∧ a2 ≤ 5) →
   Post (some (zI (-1))) h))))) :
    zV RX6 cX6_read 3 (some .int) d Post Γ 0 [(0, zR 0), (1, zI a1), (2, zI a2)] [] h := by
  refine z_iload_n (pc := 0) (n := 1) dX6_read_0 rfl rfl ?_
  refine z_callS (pc := 1) (M := mX6_isAgent) (as := [_]) (st := []) c_X6_isAgent wt_X6_isAgent wm_X6_isAgent ⟨by omega, by decide⟩ wl_X6_73 dX6_read_1 rfl (Nat.le_of_ble_eq_true rfl) rfl ?_
  rintro _ _ ⟨rfl, rfl⟩
  refine z_ifb_eq (pc := 4) (tgt := 14) dX6_read_4 (by decide) (fun c => ?_) (fun c => ?_)
  · replace Q := Q.1 c
    refine z_iconst (pc := 14) (a := -1) dX6_read_14 rfl ?_
    exact z_iret (pc := 15) rfl dX6_read_15 Q
  · replace Q := Q.2 c
    refine z_iload_n (pc := 7) (n := 2) dX6_read_7 rfl rfl ?_
    refine z_callS (pc := 8) (M := mX6_isCell) (as := [_]) (st := []) c_X6_isCell wt_X6_isCell wm_X6_isCell ⟨by omega, by decide⟩ wl_X6_77 dX6_read_8 rfl (Nat.le_of_ble_eq_true rfl) rfl ?_
    rintro _ _ ⟨rfl, rfl⟩
    refine z_ifb_ne (pc := 11) (tgt := 16) dX6_read_11 (by decide) (fun c => ?_) (fun c => ?_)
    · replace Q := Q.1 c
      refine z_aload_n (pc := 16) (n := 0) dX6_read_16 rfl rfl ?_
      refine z_getR (pc := 17) (q2 := 1) zo_LentParts rfl inT6 (i := 0) (by decide) wf_X6_10 rfl (fun _ _ => rfl) dX6_read_17 ?_
      refine z_iload_n (pc := 20) (n := 1) dX6_read_20 rfl rfl ?_
      refine z_iload_n (pc := 21) (n := 2) dX6_read_21 rfl rfl ?_
      obtain ⟨c1, Q⟩ := Q
      obtain ⟨c2, Q⟩ := Q
      refine z_callV (pc := 22) (M := mX4_heldBy) (as := [_, _]) (st := []) (c_X4_heldBy zSt_1 c1 c2) (zo_State zSt_1) rfl wi_X4_heldBy wm_X4_heldBy ⟨by omega, by decide⟩ wl_X6_80 dX6_read_22 rfl (Nat.le_of_ble_eq_true rfl) rfl ?_
      rintro _ _ ⟨rfl, rfl⟩
      refine z_if_ne (pc := 25) (tgt := 33) dX6_read_25 (by decide) (fun c => ?_) (fun c => ?_)
      · replace Q := Q.1 c
        refine z_aload_n (pc := 33) (n := 0) dX6_read_33 rfl rfl ?_
        refine z_getR (pc := 34) (q2 := 1) zo_LentParts rfl inT6 (i := 0) (by decide) wf_X6_10 rfl (fun _ _ => rfl) dX6_read_34 ?_
        refine z_getR (pc := 37) (q2 := 2) (zo_State zSt_1) rfl inT4 (i := 0) (by decide) wf_X6_83 rfl (fun _ _ => rfl) dX6_read_37 ?_
        refine z_iload_n (pc := 40) (n := 2) dX6_read_40 rfl rfl ?_
        obtain ⟨c3, c4, Q⟩ := Q
        refine z_iald (pc := 41) (za_value zSt_1) c3 c4 dX6_read_41 ?_
        exact z_iret (pc := 42) rfl dX6_read_42 Q
      · replace Q := Q.2 c
        refine z_bipush (pc := 28) (a := -4) dX6_read_28 rfl ?_
        refine z_goto (pc := 30) (tgt := 42) dX6_read_30 (by decide) ?_
        exact z_iret (pc := 42) rfl dX6_read_42 Q
    · replace Q := Q.2 c
      refine z_iconst (pc := 14) (a := -1) dX6_read_14 rfl ?_
      exact z_iret (pc := 15) rfl dX6_read_15 Q
set_option maxHeartbeats 4000000 in
set_option maxRecDepth 100000 in
theorem k_X6_reason_0 {d : Nat} {Post : Option zA → zH → Prop} {Γ : zCx} {h : zH} {a1 : Int} {a2 : Int}  (hd : 2 ≤ d) (Q :
 ((¬ (0 ≤ a1 ∧ a1 ≤ 5) →
  Post (some (zI (-1))) h) ∧
 (0 ≤ a1 ∧ a1 ≤ 5 →
  ((0 ≤ a2 ∧ a2 ≤ 5 →
   ∃ (d1 : Nat) (P2 : Option zA → zH → Prop), d1 + 1 ≤ d ∧ zSp d1 mX6_heldAfterGathering [zR 0, zI a1, zI a2] h P2 ∧ ∀ r3 h4, P2 r3 h4 →
   ∃ x7 : Int, r3 = some (zI x7) ∧
   ((¬ x7 = 64 →
    ∃ (d8 : Nat) (P9 : Option zA → zH → Prop), d8 + 1 ≤ d ∧ zSp d8 mX4_countHolding [zR 1, zI a2] h4 P9 ∧ ∀ r10 h11, P9 r10 h11 →
    ∃ x14 : Int, r10 = some (zI x14) ∧
    ((x14 ≤ 0 →
     Post (some (zI 2)) h11) ∧
    (¬ x14 ≤ 0 →
     Post (some (zI 1)) h11))) ∧
   (x7 = 64 →
    Post (some (zI 0)) h4))) ∧
  (¬ (0 ≤ a2 ∧ a2 ≤ 5) →
   Post (some (zI (-1))) h))))) :
    zV RX6 cX6_reason 3 (some .int) d Post Γ 0 [(0, zR 0), (1, zI a1), (2, zI a2)] [] h := by
  refine z_iload_n (pc := 0) (n := 1) dX6_reason_0 rfl rfl ?_
  refine z_callS (pc := 1) (M := mX6_isAgent) (as := [_]) (st := []) c_X6_isAgent wt_X6_isAgent wm_X6_isAgent ⟨by omega, by decide⟩ wl_X6_73 dX6_reason_1 rfl (Nat.le_of_ble_eq_true rfl) rfl ?_
  rintro _ _ ⟨rfl, rfl⟩
  refine z_ifb_eq (pc := 4) (tgt := 14) dX6_reason_4 (by decide) (fun c => ?_) (fun c => ?_)
  · replace Q := Q.1 c
    refine z_iconst (pc := 14) (a := -1) dX6_reason_14 rfl ?_
    exact z_iret (pc := 15) rfl dX6_reason_15 Q
  · replace Q := Q.2 c
    refine z_iload_n (pc := 7) (n := 2) dX6_reason_7 rfl rfl ?_
    refine z_callS (pc := 8) (M := mX6_isCell) (as := [_]) (st := []) c_X6_isCell wt_X6_isCell wm_X6_isCell ⟨by omega, by decide⟩ wl_X6_77 dX6_reason_8 rfl (Nat.le_of_ble_eq_true rfl) rfl ?_
    rintro _ _ ⟨rfl, rfl⟩
    refine z_ifb_ne (pc := 11) (tgt := 16) dX6_reason_11 (by decide) (fun c => ?_) (fun c => ?_)
    · replace Q := Q.1 c
      refine z_aload_n (pc := 16) (n := 0) dX6_reason_16 rfl rfl ?_
      refine z_iload_n (pc := 17) (n := 1) dX6_reason_17 rfl rfl ?_
      refine z_iload_n (pc := 18) (n := 2) dX6_reason_18 rfl rfl ?_
      obtain ⟨d1, P2, e5, s6, Q⟩ := Q
      refine z_callV (pc := 19) (M := mX6_heldAfterGathering) (as := [_, _]) (st := []) s6 zo_LentParts rfl wi_X6_heldAfterGathering wm_X6_heldAfterGathering ⟨by omega, by decide⟩ wl_X6_192 dX6_reason_19 rfl (Nat.le_of_ble_eq_true rfl) rfl ?_
      intro r3 h4 s6
      obtain ⟨x7, rfl, Q⟩ := Q _ _ s6
      refine z_bipush (pc := 22) (a := 64) dX6_reason_22 rfl ?_
      refine z_icmp_ne (pc := 24) (tgt := 29) dX6_reason_24 (by decide) (fun c => ?_) (fun c => ?_)
      · replace Q := Q.1 c
        refine z_aload_n (pc := 29) (n := 0) dX6_reason_29 rfl rfl ?_
        refine z_getR (pc := 30) (q2 := 1) zo_LentParts rfl inT6 (i := 0) (by decide) wf_X6_10 rfl (fun _ _ => rfl) dX6_reason_30 ?_
        refine z_iload_n (pc := 33) (n := 2) dX6_reason_33 rfl rfl ?_
        obtain ⟨d8, P9, e12, s13, Q⟩ := Q
        refine z_callV (pc := 34) (M := mX4_countHolding) (as := [_]) (st := []) s13 (zo_State zSt_1) rfl wi_X4_countHolding wm_X4_countHolding ⟨by omega, by decide⟩ wl_X6_176 dX6_reason_34 rfl (Nat.le_of_ble_eq_true rfl) rfl ?_
        intro r10 h11 s13
        obtain ⟨x14, rfl, Q⟩ := Q _ _ s13
        refine z_if_le (pc := 37) (tgt := 44) dX6_reason_37 (by decide) (fun c => ?_) (fun c => ?_)
        · replace Q := Q.1 c
          refine z_iconst (pc := 44) (a := 2) dX6_reason_44 rfl ?_
          exact z_iret (pc := 45) rfl dX6_reason_45 Q
        · replace Q := Q.2 c
          refine z_iconst (pc := 40) (a := 1) dX6_reason_40 rfl ?_
          refine z_goto (pc := 41) (tgt := 45) dX6_reason_41 (by decide) ?_
          exact z_iret (pc := 45) rfl dX6_reason_45 Q
      · replace Q := Q.2 c
        refine z_iconst (pc := 27) (a := 0) dX6_reason_27 rfl ?_
        exact z_iret (pc := 28) rfl dX6_reason_28 Q
    · replace Q := Q.2 c
      refine z_iconst (pc := 14) (a := -1) dX6_reason_14 rfl ?_
      exact z_iret (pc := 15) rfl dX6_reason_15 Q
set_option maxHeartbeats 4000000 in
set_option maxRecDepth 100000 in
theorem k_X6_serve_0 {d : Nat} {Post : Option zA → zH → Prop} {Γ : zCx} {h : zH} {a1 : Int}  (hd : 1 ≤ d) (Q :
 ∃ (d1 : Nat) (P2 : Option zA → zH → Prop), d1 + 1 ≤ d ∧ zSp d1 mX2_open [zR 46, zR 1] h P2 ∧ ∀ r3 h4, P2 r3 h4 →
 r3 = none ∧
 ∃ (d7 : Nat) (P8 : Option zA → zH → Prop), d7 + 1 ≤ d ∧ zSp d7 mX6_serveClaims [zR 0, zI a1] h4 P8 ∧ ∀ r9 h10, P8 r9 h10 →
 ∃ x13 : Int, r9 = some (zI x13) ∧
 ∃ (d14 : Nat) (P15 : Option zA → zH → Prop), d14 + 1 ≤ d ∧ zSp d14 mX6_close [zR 0, zI x13] h10 P15 ∧ ∀ r16 h17, P15 r16 h17 →
 ∃ x20 : Int, r16 = some (zI x20) ∧
 Post (some (zI x20)) h17) :
    zV RX6 cX6_serve 2 (some .int) d Post Γ 0 [(0, zR 0), (1, zI a1)] [] h := by
  refine z_aload_n (pc := 0) (n := 0) dX6_serve_0 rfl rfl ?_
  refine z_getR (pc := 1) (q2 := 46) zo_LentParts rfl inT6 (i := 3) (by decide) wf_X6_25 rfl (fun _ _ => rfl) dX6_serve_1 ?_
  refine z_aload_n (pc := 4) (n := 0) dX6_serve_4 rfl rfl ?_
  refine z_getR (pc := 5) (q2 := 1) zo_LentParts rfl inT6 (i := 0) (by decide) wf_X6_10 rfl (fun _ _ => rfl) dX6_serve_5 ?_
  obtain ⟨d1, P2, e5, s6, Q⟩ := Q
  refine z_callV (pc := 8) (M := mX2_open) (as := [_]) (st := []) s6 zo_History rfl wi_X2_open wm_X2_open ⟨by omega, by decide⟩ wl_X6_43 dX6_serve_8 rfl (Nat.le_of_ble_eq_true rfl) rfl ?_
  intro r3 h4 s6
  obtain ⟨rfl, Q⟩ := Q _ _ s6
  refine z_aload_n (pc := 11) (n := 0) dX6_serve_11 rfl rfl ?_
  refine z_aload_n (pc := 12) (n := 0) dX6_serve_12 rfl rfl ?_
  refine z_iload_n (pc := 13) (n := 1) dX6_serve_13 rfl rfl ?_
  obtain ⟨d7, P8, e11, s12, Q⟩ := Q
  refine z_callV (pc := 14) (M := mX6_serveClaims) (as := [_]) (st := [_]) s12 zo_LentParts rfl wi_X6_serveClaims wm_X6_serveClaims ⟨by omega, by decide⟩ wl_X6_90 dX6_serve_14 rfl (Nat.le_of_ble_eq_true rfl) rfl ?_
  intro r9 h10 s12
  obtain ⟨x13, rfl, Q⟩ := Q _ _ s12
  obtain ⟨d14, P15, e18, s19, Q⟩ := Q
  refine z_callV (pc := 17) (M := mX6_close) (as := [_]) (st := []) s19 zo_LentParts rfl wi_X6_close wm_X6_close ⟨by omega, by decide⟩ wl_X6_51 dX6_serve_17 rfl (Nat.le_of_ble_eq_true rfl) rfl ?_
  intro r16 h17 s19
  obtain ⟨x20, rfl, Q⟩ := Q _ _ s19
  exact z_iret (pc := 20) rfl dX6_serve_20 Q
set_option maxHeartbeats 4000000 in
set_option maxRecDepth 100000 in
theorem k_X6_serveClaims_0 {d : Nat} {Post : Option zA → zH → Prop} {Γ : zCx} {h : zH} {a1 : Int}  (hd : 2 ≤ d) (Q :
 ((0 ≤ a1 ∧ a1 ≤ 5 →
  (0 ≤ a1 ∧ a1 ≤ 5) ∧
  ((¬ (h 9 a1.toNat) = 0 →
   0 ≤ a1 ∧ a1 < 6 ∧
   ∀ x4 : Int, x4 = (h 4 a1.toNat) →
   ∃ (d5 : Nat) (P6 : Option zA → zH → Prop), d5 + 1 ≤ d ∧ zSp d5 mX1_run [zR 123, zR 1, zI x4, zI a1] h P6 ∧ ∀ r7 h8, P6 r7 h8 →
   ∃ x11 : Int, r7 = some (zI x11) ∧
   (0 ≤ x4 ∧ x4 ≤ 5) ∧
   (0 ≤ a1 ∧ a1 ≤ 5) ∧
   ((¬ (h8 5 (6 * a1 + x4).toNat) = 64 →
    ((¬ x11 = 0 →
     Post (some (zI 9)) h8) ∧
    (x11 = 0 →
     Post (some (zI (-5))) h8))) ∧
   ((h8 5 (6 * a1 + x4).toNat) = 64 →
    (0 ≤ x4 ∧ x4 ≤ 5) ∧
    (0 ≤ a1 ∧ a1 ≤ 5) ∧
    ((¬ zand (h8 6 a1.toNat) (zshl 1 x4) = 0 →
     ((¬ x11 = 0 →
      Post (some (zI 9)) h8) ∧
     (x11 = 0 →
      Post (some (zI (-5))) h8))) ∧
    (¬ (¬ zand (h8 6 a1.toNat) (zshl 1 x4) = 0) →
     ∃ (d16 : Nat) (P17 : Option zA → zH → Prop), d16 + 1 ≤ d ∧ zSp d16 mX4_grantFirstClaim [zR 1, zI a1] h8 P17 ∧ ∀ r18 h19, P17 r18 h19 →
     ∃ x22 : Int, r18 = some (zI x22) ∧
     Post (some (zI x22)) h19))))) ∧
  ((h 9 a1.toNat) = 0 →
   Post (some (zI (-4))) h))) ∧
 (¬ (0 ≤ a1 ∧ a1 ≤ 5) →
  Post (some (zI (-1))) h))) :
    zV RX6 cX6_serveClaims 4 (some .int) d Post Γ 0 [(0, zR 0), (1, zI a1)] [] h := by
  refine z_iload_n (pc := 0) (n := 1) dX6_serveClaims_0 rfl rfl ?_
  refine z_callS (pc := 1) (M := mX6_isCell) (as := [_]) (st := []) c_X6_isCell wt_X6_isCell wm_X6_isCell ⟨by omega, by decide⟩ wl_X6_77 dX6_serveClaims_1 rfl (Nat.le_of_ble_eq_true rfl) rfl ?_
  rintro _ _ ⟨rfl, rfl⟩
  refine z_ifb_ne (pc := 4) (tgt := 9) dX6_serveClaims_4 (by decide) (fun c => ?_) (fun c => ?_)
  · replace Q := Q.1 c
    refine z_aload_n (pc := 9) (n := 0) dX6_serveClaims_9 rfl rfl ?_
    refine z_getR (pc := 10) (q2 := 1) zo_LentParts rfl inT6 (i := 0) (by decide) wf_X6_10 rfl (fun _ _ => rfl) dX6_serveClaims_10 ?_
    refine z_getR (pc := 13) (q2 := 7) (zo_State zSt_1) rfl inT4 (i := 5) (by decide) wf_X6_159 rfl (fun _ _ => rfl) dX6_serveClaims_13 ?_
    refine z_iload_n (pc := 16) (n := 1) dX6_serveClaims_16 rfl rfl ?_
    obtain ⟨c1, Q⟩ := Q
    refine z_callV (pc := 17) (M := mX0_size) (as := [_]) (st := []) (c_X0_size zSt_1 c1) (zo_Claims zSt_1) rfl wi_X0_size wm_X0_size ⟨by omega, by decide⟩ wl_X6_163 dX6_serveClaims_17 rfl (Nat.le_of_ble_eq_true rfl) rfl ?_
    rintro _ _ ⟨rfl, rfl⟩
    refine z_if_ne (pc := 20) (tgt := 26) dX6_serveClaims_20 (by decide) (fun c => ?_) (fun c => ?_)
    · replace Q := Q.1 c
      refine z_aload_n (pc := 26) (n := 0) dX6_serveClaims_26 rfl rfl ?_
      refine z_getR (pc := 27) (q2 := 1) zo_LentParts rfl inT6 (i := 0) (by decide) wf_X6_10 rfl (fun _ _ => rfl) dX6_serveClaims_27 ?_
      refine z_getR (pc := 30) (q2 := 4) (zo_State zSt_1) rfl inT4 (i := 2) (by decide) wf_X6_153 rfl (fun _ _ => rfl) dX6_serveClaims_30 ?_
      refine z_iload_n (pc := 33) (n := 1) dX6_serveClaims_33 rfl rfl ?_
      obtain ⟨c2, c3, Q⟩ := Q
      refine z_iald (pc := 34) (za_owner zSt_1) c2 c3 dX6_serveClaims_34 ?_
      refine z_top (fun x4 ex4 => ?_)
      replace Q := Q x4 ex4
      refine z_istore_n (pc := 35) (ls' := [(2, _), (0, _), (1, _)]) dX6_serveClaims_35 rfl (by decide) rfl ?_
      refine z_aload_n (pc := 36) (n := 1) dX6_serveClaims_36 rfl rfl ?_
      refine z_getR (pc := 37) (q2 := 123) zo_LentParts rfl inT6 (i := 4) (by decide) wf_X6_32 rfl (fun _ _ => rfl) dX6_serveClaims_37 ?_
      refine z_aload_n (pc := 40) (n := 1) dX6_serveClaims_40 rfl rfl ?_
      refine z_getR (pc := 41) (q2 := 1) zo_LentParts rfl inT6 (i := 0) (by decide) wf_X6_10 rfl (fun _ _ => rfl) dX6_serveClaims_41 ?_
      refine z_iload_n (pc := 44) (n := 0) dX6_serveClaims_44 rfl rfl ?_
      refine z_iload_n (pc := 45) (n := 2) dX6_serveClaims_45 rfl rfl ?_
      obtain ⟨d5, P6, e9, s10, Q⟩ := Q
      refine z_callV (pc := 46) (M := mX1_run) (as := [_, _, _]) (st := []) s10 zo_Gathering rfl wi_X1_run wm_X1_run ⟨by omega, by decide⟩ wl_X6_241 dX6_serveClaims_46 rfl (Nat.le_of_ble_eq_true rfl) rfl ?_
      intro r7 h8 s10
      obtain ⟨x11, rfl, Q⟩ := Q _ _ s10
      refine z_istore_n (pc := 49) (ls' := [(3, _), (2, _), (0, _), (1, _)]) dX6_serveClaims_49 rfl (by decide) rfl ?_
      refine z_aload_n (pc := 50) (n := 2) dX6_serveClaims_50 rfl rfl ?_
      refine z_getR (pc := 51) (q2 := 1) zo_LentParts rfl inT6 (i := 0) (by decide) wf_X6_10 rfl (fun _ _ => rfl) dX6_serveClaims_51 ?_
      refine z_iload_n (pc := 54) (n := 1) dX6_serveClaims_54 rfl rfl ?_
      refine z_iload_n (pc := 55) (n := 3) dX6_serveClaims_55 rfl rfl ?_
      obtain ⟨c12, Q⟩ := Q
      obtain ⟨c13, Q⟩ := Q
      refine z_callV (pc := 56) (M := mX4_heldBy) (as := [_, _]) (st := []) (c_X4_heldBy zSt_1 c12 c13) (zo_State zSt_1) rfl wi_X4_heldBy wm_X4_heldBy ⟨by omega, by decide⟩ wl_X6_80 dX6_serveClaims_56 rfl (Nat.le_of_ble_eq_true rfl) rfl ?_
      rintro _ _ ⟨rfl, rfl⟩
      refine z_bipush (pc := 59) (a := 64) dX6_serveClaims_59 rfl ?_
      refine z_icmp_ne (pc := 61) (tgt := 85) dX6_serveClaims_61 (by decide) (fun c => ?_) (fun c => ?_)
      · replace Q := Q.1 c
        refine z_iload_n (pc := 85) (n := 0) dX6_serveClaims_85 rfl rfl ?_
        refine z_if_ne (pc := 86) (tgt := 94) dX6_serveClaims_86 (by decide) (fun c => ?_) (fun c => ?_)
        · replace Q := Q.1 c
          refine z_bipush (pc := 94) (a := 9) dX6_serveClaims_94 rfl ?_
          exact z_iret (pc := 96) rfl dX6_serveClaims_96 Q
        · replace Q := Q.2 c
          refine z_bipush (pc := 89) (a := -5) dX6_serveClaims_89 rfl ?_
          refine z_goto (pc := 91) (tgt := 96) dX6_serveClaims_91 (by decide) ?_
          exact z_iret (pc := 96) rfl dX6_serveClaims_96 Q
      · replace Q := Q.2 c
        refine z_aload_n (pc := 64) (n := 2) dX6_serveClaims_64 rfl rfl ?_
        refine z_getR (pc := 65) (q2 := 1) zo_LentParts rfl inT6 (i := 0) (by decide) wf_X6_10 rfl (fun _ _ => rfl) dX6_serveClaims_65 ?_
        refine z_iload_n (pc := 68) (n := 1) dX6_serveClaims_68 rfl rfl ?_
        refine z_iload_n (pc := 69) (n := 3) dX6_serveClaims_69 rfl rfl ?_
        obtain ⟨c14, Q⟩ := Q
        obtain ⟨c15, Q⟩ := Q
        refine z_callV (pc := 70) (M := mX4_isHolding) (as := [_, _]) (st := []) (c_X4_isHolding zSt_1 c14 c15) (zo_State zSt_1) rfl wi_X4_isHolding wm_X4_isHolding ⟨by omega, by decide⟩ wl_X6_185 dX6_serveClaims_70 rfl (Nat.le_of_ble_eq_true rfl) rfl ?_
        rintro _ _ ⟨rfl, rfl⟩
        refine z_ifb_ne (pc := 73) (tgt := 85) dX6_serveClaims_73 (by decide) (fun c => ?_) (fun c => ?_)
        · replace Q := Q.1 c
          refine z_iload_n (pc := 85) (n := 0) dX6_serveClaims_85 rfl rfl ?_
          refine z_if_ne (pc := 86) (tgt := 94) dX6_serveClaims_86 (by decide) (fun c => ?_) (fun c => ?_)
          · replace Q := Q.1 c
            refine z_bipush (pc := 94) (a := 9) dX6_serveClaims_94 rfl ?_
            exact z_iret (pc := 96) rfl dX6_serveClaims_96 Q
          · replace Q := Q.2 c
            refine z_bipush (pc := 89) (a := -5) dX6_serveClaims_89 rfl ?_
            refine z_goto (pc := 91) (tgt := 96) dX6_serveClaims_91 (by decide) ?_
            exact z_iret (pc := 96) rfl dX6_serveClaims_96 Q
        · replace Q := Q.2 c
          refine z_aload_n (pc := 76) (n := 2) dX6_serveClaims_76 rfl rfl ?_
          refine z_getR (pc := 77) (q2 := 1) zo_LentParts rfl inT6 (i := 0) (by decide) wf_X6_10 rfl (fun _ _ => rfl) dX6_serveClaims_77 ?_
          refine z_iload_n (pc := 80) (n := 3) dX6_serveClaims_80 rfl rfl ?_
          obtain ⟨d16, P17, e20, s21, Q⟩ := Q
          refine z_callV (pc := 81) (M := mX4_grantFirstClaim) (as := [_]) (st := []) s21 (zo_State zSt_1) rfl wi_X4_grantFirstClaim wm_X4_grantFirstClaim ⟨by omega, by decide⟩ wl_X6_245 dX6_serveClaims_81 rfl (Nat.le_of_ble_eq_true rfl) rfl ?_
          intro r18 h19 s21
          obtain ⟨x22, rfl, Q⟩ := Q _ _ s21
          exact z_iret (pc := 84) rfl dX6_serveClaims_84 Q
    · replace Q := Q.2 c
      refine z_bipush (pc := 23) (a := -4) dX6_serveClaims_23 rfl ?_
      exact z_iret (pc := 25) rfl dX6_serveClaims_25 Q
  · replace Q := Q.2 c
    refine z_iconst (pc := 7) (a := -1) dX6_serveClaims_7 rfl ?_
    exact z_iret (pc := 8) rfl dX6_serveClaims_8 Q
set_option maxHeartbeats 4000000 in
set_option maxRecDepth 100000 in
theorem k_X6_undo_0 {d : Nat} {Post : Option zA → zH → Prop} {Γ : zCx} {h : zH}   (hd : 2 ≤ d) (Q :
 ∃ (d1 : Nat) (P2 : Option zA → zH → Prop), d1 + 1 ≤ d ∧ zSp d1 mX2_takeLatest [zR 46] h P2 ∧ ∀ r3 h4, P2 r3 h4 →
 ∃ o7 : Option Nat, r3 = some (.inr (.inr o7)) ∧
 (o7 = none →
  Post (some (zI (-5))) h4) ∧
 (∀ k8, o7 = some k8 → zSt k8 ∧
  ∃ (d10 : Nat) (P11 : Option zA → zH → Prop), d10 + 1 ≤ d ∧ zSp d10 mX4_copyFrom [zR 1, zR k8] h4 P11 ∧ ∀ r12 h13, P11 r12 h13 →
  r12 = none ∧
  Post (some (zI (h13 46 2))) h13)) :
    zV RX6 cX6_undo 2 (some .int) d Post Γ 0 [(0, zR 0)] [] h := by
  refine z_aload_n (pc := 0) (n := 0) dX6_undo_0 rfl rfl ?_
  refine z_getR (pc := 1) (q2 := 46) zo_LentParts rfl inT6 (i := 3) (by decide) wf_X6_25 rfl (fun _ _ => rfl) dX6_undo_1 ?_
  obtain ⟨d1, P2, e5, s6, Q⟩ := Q
  refine z_callV (pc := 4) (M := mX2_takeLatest) (as := []) (st := []) s6 zo_History rfl wi_X2_takeLatest wm_X2_takeLatest ⟨by omega, by decide⟩ wl_X6_128 dX6_undo_4 rfl (Nat.le_of_ble_eq_true rfl) rfl ?_
  intro r3 h4 s6
  obtain ⟨o7, rfl, Q⟩ := Q _ _ s6
  rcases o7 with _ | k8
  · replace Q := Q.1 rfl
    refine z_astore_nN (pc := 7) (ls' := [(1, _), (0, _)]) dX6_undo_7 rfl (by decide) rfl ?_
    refine z_aload_nN (pc := 8) (n := 0) dX6_undo_8 rfl rfl ?_
    refine z_ifnonnullN (pc := 9) dX6_undo_9 ?_
    refine z_bipush (pc := 12) (a := -5) dX6_undo_12 rfl ?_
    exact z_iret (pc := 14) rfl dX6_undo_14 Q
  · obtain ⟨hs9, Q⟩ := Q.2 k8 rfl
    refine z_astore_n (pc := 7) (ls' := [(1, _), (0, _)]) dX6_undo_7 rfl (by decide) rfl ?_
    refine z_aload_n (pc := 8) (n := 0) dX6_undo_8 rfl rfl ?_
    refine z_ifnonnullR (pc := 9) (tgt := 15) dX6_undo_9 (by decide) ?_
    refine z_aload_n (pc := 15) (n := 1) dX6_undo_15 rfl rfl ?_
    refine z_getR (pc := 16) (q2 := 1) zo_LentParts rfl inT6 (i := 0) (by decide) wf_X6_10 rfl (fun _ _ => rfl) dX6_undo_16 ?_
    refine z_aload_n (pc := 19) (n := 0) dX6_undo_19 rfl rfl ?_
    obtain ⟨d10, P11, e14, s15, Q⟩ := Q
    refine z_callV (pc := 20) (M := mX4_copyFrom) (as := [_]) (st := []) s15 (zo_State zSt_1) rfl wi_X4_copyFrom wm_X4_copyFrom ⟨by omega, by decide⟩ wl_X6_132 dX6_undo_20 rfl (Nat.le_of_ble_eq_true rfl) rfl ?_
    intro r12 h13 s15
    obtain ⟨rfl, Q⟩ := Q _ _ s15
    refine z_aload_n (pc := 23) (n := 1) dX6_undo_23 rfl rfl ?_
    refine z_getR (pc := 24) (q2 := 46) zo_LentParts rfl inT6 (i := 3) (by decide) wf_X6_25 rfl (fun _ _ => rfl) dX6_undo_24 ?_
    refine z_callV (pc := 27) (M := mX2_size) (as := []) (st := []) c_X2_size zo_History rfl wi_X2_size wm_X2_size ⟨by omega, by decide⟩ wl_X6_135 dX6_undo_27 rfl (Nat.le_of_ble_eq_true rfl) rfl ?_
    rintro _ _ ⟨rfl, rfl⟩
    exact z_iret (pc := 30) rfl dX6_undo_30 Q
set_option maxHeartbeats 4000000 in
set_option maxRecDepth 100000 in
theorem k_X6_write_0 {d : Nat} {Post : Option zA → zH → Prop} {Γ : zCx} {h : zH} {a1 : Int} {a2 : Int} {a3 : Int}  (hd : 1 ≤ d) (Q :
 ∃ (d1 : Nat) (P2 : Option zA → zH → Prop), d1 + 1 ≤ d ∧ zSp d1 mX2_open [zR 46, zR 1] h P2 ∧ ∀ r3 h4, P2 r3 h4 →
 r3 = none ∧
 ∃ (d7 : Nat) (P8 : Option zA → zH → Prop), d7 + 1 ≤ d ∧ zSp d7 mX4_writeValue [zR 1, zI a1, zI a2, zI a3] h4 P8 ∧ ∀ r9 h10, P8 r9 h10 →
 ∃ x13 : Int, r9 = some (zI x13) ∧
 ∃ (d14 : Nat) (P15 : Option zA → zH → Prop), d14 + 1 ≤ d ∧ zSp d14 mX6_close [zR 0, zI x13] h10 P15 ∧ ∀ r16 h17, P15 r16 h17 →
 ∃ x20 : Int, r16 = some (zI x20) ∧
 Post (some (zI x20)) h17) :
    zV RX6 cX6_write 4 (some .int) d Post Γ 0 [(0, zR 0), (1, zI a1), (2, zI a2), (3, zI a3)] [] h := by
  refine z_aload_n (pc := 0) (n := 0) dX6_write_0 rfl rfl ?_
  refine z_getR (pc := 1) (q2 := 46) zo_LentParts rfl inT6 (i := 3) (by decide) wf_X6_25 rfl (fun _ _ => rfl) dX6_write_1 ?_
  refine z_aload_n (pc := 4) (n := 0) dX6_write_4 rfl rfl ?_
  refine z_getR (pc := 5) (q2 := 1) zo_LentParts rfl inT6 (i := 0) (by decide) wf_X6_10 rfl (fun _ _ => rfl) dX6_write_5 ?_
  obtain ⟨d1, P2, e5, s6, Q⟩ := Q
  refine z_callV (pc := 8) (M := mX2_open) (as := [_]) (st := []) s6 zo_History rfl wi_X2_open wm_X2_open ⟨by omega, by decide⟩ wl_X6_43 dX6_write_8 rfl (Nat.le_of_ble_eq_true rfl) rfl ?_
  intro r3 h4 s6
  obtain ⟨rfl, Q⟩ := Q _ _ s6
  refine z_aload_n (pc := 11) (n := 0) dX6_write_11 rfl rfl ?_
  refine z_aload_n (pc := 12) (n := 0) dX6_write_12 rfl rfl ?_
  refine z_getR (pc := 13) (q2 := 1) zo_LentParts rfl inT6 (i := 0) (by decide) wf_X6_10 rfl (fun _ _ => rfl) dX6_write_13 ?_
  refine z_iload_n (pc := 16) (n := 1) dX6_write_16 rfl rfl ?_
  refine z_iload_n (pc := 17) (n := 2) dX6_write_17 rfl rfl ?_
  refine z_iload_n (pc := 18) (n := 3) dX6_write_18 rfl rfl ?_
  obtain ⟨d7, P8, e11, s12, Q⟩ := Q
  refine z_callV (pc := 19) (M := mX4_writeValue) (as := [_, _, _]) (st := [_]) s12 (zo_State zSt_1) rfl wi_X4_writeValue wm_X4_writeValue ⟨by omega, by decide⟩ wl_X6_70 dX6_write_19 rfl (Nat.le_of_ble_eq_true rfl) rfl ?_
  intro r9 h10 s12
  obtain ⟨x13, rfl, Q⟩ := Q _ _ s12
  obtain ⟨d14, P15, e18, s19, Q⟩ := Q
  refine z_callV (pc := 22) (M := mX6_close) (as := [_]) (st := []) s19 zo_LentParts rfl wi_X6_close wm_X6_close ⟨by omega, by decide⟩ wl_X6_51 dX6_write_22 rfl (Nat.le_of_ble_eq_true rfl) rfl ?_
  intro r16 h17 s19
  obtain ⟨x20, rfl, Q⟩ := Q _ _ s19
  exact z_iret (pc := 25) rfl dX6_write_25 Q
