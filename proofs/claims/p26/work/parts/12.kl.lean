/-! walks of methods, from cut to cut (printed by wip/gen/genk.py) -/
set_option maxHeartbeats 4000000 in
set_option maxRecDepth 100000 in
theorem k_L_does_0 {d : Nat} {Post : Option zA → zH → Prop} {Γ : zCx} {h : zH} {a2 : Int}  (hd : 2 ≤ d) (Q :
 ∀ x1 : Int, x1 = (zlow (zshr a2 4) 6) →
 ∀ x2 : Int, x2 = (zlow (zshr a2 7) 6) →
 ∀ x3 : Int, x3 = (zlow (zshr a2 10) 2) →
 ∃ (d4 : Nat) (P5 : Option zA → zH → Prop), d4 + 1 ≤ d ∧ zSp d4 mX6_count [zR 0, zI 1] h P5 ∧ ∀ r6 h7, P5 r6 h7 →
 ∃ x10 : Int, r6 = some (zI x10) ∧
 (((zand a2 15) = 0 →
  ∃ (d11 : Nat) (P12 : Option zA → zH → Prop), d11 + 1 ≤ d ∧ zSp d11 mX6_half [zR 0, zI x1, zI x2, zI x3] h7 P12 ∧ ∀ r13 h14, P12 r13 h14 →
  ∃ x17 : Int, r13 = some (zI x17) ∧
  Post (some (zI x17)) h14) ∧
 ((zand a2 15) = 1 →
  ∃ (d18 : Nat) (P19 : Option zA → zH → Prop), d18 + 1 ≤ d ∧ zSp d18 mX6_half [zR 0, zI x1, zI x2, zI x3] h7 P19 ∧ ∀ r20 h21, P19 r20 h21 →
  ∃ x24 : Int, r20 = some (zI x24) ∧
  Post (some (zI x24)) h21) ∧
 ((zand a2 15) = 2 →
  ∃ (d25 : Nat) (P26 : Option zA → zH → Prop), d25 + 1 ≤ d ∧ zSp d25 mX6_half [zR 0, zI x1, zI x2, zI x3] h7 P26 ∧ ∀ r27 h28, P26 r27 h28 →
  ∃ x31 : Int, r27 = some (zI x31) ∧
  Post (some (zI x31)) h28) ∧
 ((zand a2 15) = 3 →
  ∃ (d32 : Nat) (P33 : Option zA → zH → Prop), d32 + 1 ≤ d ∧ zSp d32 mX6_lend [zR 0, zI x1, zI x2, zI x3, zI (zwr (1 + (zlow (zshr a2 12) 40)))] h7 P33 ∧ ∀ r34 h35, P33 r34 h35 →
  ∃ x38 : Int, r34 = some (zI x38) ∧
  Post (some (zI x38)) h35) ∧
 ((zand a2 15) = 4 →
  ∃ (d39 : Nat) (P40 : Option zA → zH → Prop), d39 + 1 ≤ d ∧ zSp d39 mX6_lend [zR 0, zI x1, zI x2, zI x3, zI (zwr (1 + (zlow (zshr a2 12) 40)))] h7 P40 ∧ ∀ r41 h42, P40 r41 h42 →
  ∃ x45 : Int, r41 = some (zI x45) ∧
  Post (some (zI x45)) h42) ∧
 ((zand a2 15) = 5 →
  ((¬ x10 = 0 →
   (1 ≤ x10) ∧
   ∃ (d47 : Nat) (P48 : Option zA → zH → Prop), d47 + 1 ≤ d ∧ zSp d47 mX6_giveBack [zR 0, zI (zlow (zshr a2 6) x10)] h7 P48 ∧ ∀ r49 h50, P48 r49 h50 →
   ∃ x53 : Int, r49 = some (zI x53) ∧
   Post (some (zI x53)) h50) ∧
  (x10 = 0 →
   ∃ (d54 : Nat) (P55 : Option zA → zH → Prop), d54 + 1 ≤ d ∧ zSp d54 mX6_giveBack [zR 0, zI 0] h7 P55 ∧ ∀ r56 h57, P55 r56 h57 →
   ∃ x60 : Int, r56 = some (zI x60) ∧
   Post (some (zI x60)) h57))) ∧
 ((zand a2 15) = 6 →
  ∃ (d61 : Nat) (P62 : Option zA → zH → Prop), d61 + 1 ≤ d ∧ zSp d61 mX6_gather [zR 0, zI x1, zI x3] h7 P62 ∧ ∀ r63 h64, P62 r63 h64 →
  ∃ x67 : Int, r63 = some (zI x67) ∧
  Post (some (zI x67)) h64) ∧
 ((zand a2 15) = 7 →
  ((¬ (zand (zshr a2 13) 3) = 0 →
   ∃ (d68 : Nat) (P69 : Option zA → zH → Prop), d68 + 1 ≤ d ∧ zSp d68 mX6_hold [zR 0, zI x1, zI x3, zI 0] h7 P69 ∧ ∀ r70 h71, P69 r70 h71 →
   ∃ x74 : Int, r70 = some (zI x74) ∧
   Post (some (zI x74)) h71) ∧
  ((zand (zshr a2 13) 3) = 0 →
   ∃ (d75 : Nat) (P76 : Option zA → zH → Prop), d75 + 1 ≤ d ∧ zSp d75 mX6_hold [zR 0, zI x1, zI x3, zI 1] h7 P76 ∧ ∀ r77 h78, P76 r77 h78 →
   ∃ x81 : Int, r77 = some (zI x81) ∧
   Post (some (zI x81)) h78))) ∧
 ((zand a2 15) = 8 →
  ((¬ (zand (zshr a2 13) 3) = 0 →
   ∃ (d82 : Nat) (P83 : Option zA → zH → Prop), d82 + 1 ≤ d ∧ zSp d82 mX6_hold [zR 0, zI x1, zI x3, zI 0] h7 P83 ∧ ∀ r84 h85, P83 r84 h85 →
   ∃ x88 : Int, r84 = some (zI x88) ∧
   Post (some (zI x88)) h85) ∧
  ((zand (zshr a2 13) 3) = 0 →
   ∃ (d89 : Nat) (P90 : Option zA → zH → Prop), d89 + 1 ≤ d ∧ zSp d89 mX6_hold [zR 0, zI x1, zI x3, zI 1] h7 P90 ∧ ∀ r91 h92, P90 r91 h92 →
   ∃ x95 : Int, r91 = some (zI x95) ∧
   Post (some (zI x95)) h92))) ∧
 ((zand a2 15) = 9 →
  ∃ (d96 : Nat) (P97 : Option zA → zH → Prop), d96 + 1 ≤ d ∧ zSp d96 mX6_write [zR 0, zI x1, zI x3, zI (zlow (zshr a2 12) 1000)] h7 P97 ∧ ∀ r98 h99, P97 r98 h99 →
  ∃ x102 : Int, r98 = some (zI x102) ∧
  Post (some (zI x102)) h99) ∧
 ((zand a2 15) = 10 →
  (((zand (zshr a2 13) 3) ≤ 0 →
   ∃ (d103 : Nat) (P104 : Option zA → zH → Prop), d103 + 1 ≤ d ∧ zSp d103 mX6_claim [zR 0, zI x1, zI x3, zI 0] h7 P104 ∧ ∀ r105 h106, P104 r105 h106 →
   ∃ x109 : Int, r105 = some (zI x109) ∧
   Post (some (zI x109)) h106) ∧
  (¬ (zand (zshr a2 13) 3) ≤ 0 →
   ∃ (d110 : Nat) (P111 : Option zA → zH → Prop), d110 + 1 ≤ d ∧ zSp d110 mX6_claim [zR 0, zI x1, zI x3, zI 1] h7 P111 ∧ ∀ r112 h113, P111 r112 h113 →
   ∃ x116 : Int, r112 = some (zI x116) ∧
   Post (some (zI x116)) h113))) ∧
 ((zand a2 15) = 11 →
  (((zand (zshr a2 13) 3) ≤ 0 →
   ∃ (d117 : Nat) (P118 : Option zA → zH → Prop), d117 + 1 ≤ d ∧ zSp d117 mX6_claim [zR 0, zI x1, zI x3, zI 0] h7 P118 ∧ ∀ r119 h120, P118 r119 h120 →
   ∃ x123 : Int, r119 = some (zI x123) ∧
   Post (some (zI x123)) h120) ∧
  (¬ (zand (zshr a2 13) 3) ≤ 0 →
   ∃ (d124 : Nat) (P125 : Option zA → zH → Prop), d124 + 1 ≤ d ∧ zSp d124 mX6_claim [zR 0, zI x1, zI x3, zI 1] h7 P125 ∧ ∀ r126 h127, P125 r126 h127 →
   ∃ x130 : Int, r126 = some (zI x130) ∧
   Post (some (zI x130)) h127))) ∧
 ((zand a2 15) = 12 →
  ∃ (d131 : Nat) (P132 : Option zA → zH → Prop), d131 + 1 ≤ d ∧ zSp d131 mX6_serve [zR 0, zI x3] h7 P132 ∧ ∀ r133 h134, P132 r133 h134 →
  ∃ x137 : Int, r133 = some (zI x137) ∧
  Post (some (zI x137)) h134) ∧
 ((zand a2 15) = 13 →
  ∃ (d138 : Nat) (P139 : Option zA → zH → Prop), d138 + 1 ≤ d ∧ zSp d138 mX6_serve [zR 0, zI x3] h7 P139 ∧ ∀ r140 h141, P139 r140 h141 →
  ∃ x144 : Int, r140 = some (zI x144) ∧
  Post (some (zI x144)) h141) ∧
 ((zand a2 15) = 14 →
  ∃ (d145 : Nat) (P146 : Option zA → zH → Prop), d145 + 1 ≤ d ∧ zSp d145 mX6_handOver [zR 0, zI x3, zI x1] h7 P146 ∧ ∀ r147 h148, P146 r147 h148 →
  ∃ x151 : Int, r147 = some (zI x151) ∧
  Post (some (zI x151)) h148) ∧
 (((zand a2 15) < 0 ∨ 14 < (zand a2 15)) →
  ∃ (d152 : Nat) (P153 : Option zA → zH → Prop), d152 + 1 ≤ d ∧ zSp d152 mX6_cell [zR 0, zI x3, zI 2] h7 P153 ∧ ∀ r154 h155, P153 r154 h155 →
  ∃ x158 : Int, r154 = some (zI x158) ∧
  ∃ (d159 : Nat) (P160 : Option zA → zH → Prop), d159 + 1 ≤ d ∧ zSp d159 mX6_lend [zR 0, zI x158, zI x2, zI x3, zI (zwr (1 + (zlow (zshr a2 12) 64)))] h155 P160 ∧ ∀ r161 h162, P160 r161 h162 →
  ∃ x165 : Int, r161 = some (zI x165) ∧
  Post (some (zI x165)) h162))) :
    zV RL cL_does 6 (some .int) d Post Γ 0 [(0, zR 0), (1, zI a2)] [] h := by
  refine z_iload_n (pc := 0) (n := 1) dL_does_0 rfl rfl ?_
  refine z_iconst (pc := 1) (a := 4) dL_does_1 rfl ?_
  refine z_ishr (pc := 2) dL_does_2 ?_
  refine z_bipush (pc := 3) (a := 6) dL_does_3 rfl ?_
  refine z_callS (pc := 5) (M := mL_low) (as := [_, _]) (st := []) (c_L_low (by decide)) wt_L_low wm_L_low ⟨by omega, by decide⟩ wl_L_8 dL_does_5 rfl (Nat.le_of_ble_eq_true rfl) rfl ?_
  rintro _ _ ⟨rfl, rfl⟩
  refine z_top (fun x1 ex1 => ?_)
  replace Q := Q x1 ex1
  refine z_istore_n (pc := 8) (ls' := [(2, _), (0, _), (1, _)]) dL_does_8 rfl (by decide) rfl ?_
  refine z_iload_n (pc := 9) (n := 2) dL_does_9 rfl rfl ?_
  refine z_bipush (pc := 10) (a := 7) dL_does_10 rfl ?_
  refine z_ishr (pc := 12) dL_does_12 ?_
  refine z_bipush (pc := 13) (a := 6) dL_does_13 rfl ?_
  refine z_callS (pc := 15) (M := mL_low) (as := [_, _]) (st := []) (c_L_low (by decide)) wt_L_low wm_L_low ⟨by omega, by decide⟩ wl_L_8 dL_does_15 rfl (Nat.le_of_ble_eq_true rfl) rfl ?_
  rintro _ _ ⟨rfl, rfl⟩
  refine z_top (fun x2 ex2 => ?_)
  replace Q := Q x2 ex2
  refine z_istore_n (pc := 18) (ls' := [(3, _), (2, _), (0, _), (1, _)]) dL_does_18 rfl (by decide) rfl ?_
  refine z_iload_n (pc := 19) (n := 3) dL_does_19 rfl rfl ?_
  refine z_bipush (pc := 20) (a := 10) dL_does_20 rfl ?_
  refine z_ishr (pc := 22) dL_does_22 ?_
  refine z_iconst (pc := 23) (a := 2) dL_does_23 rfl ?_
  refine z_callS (pc := 24) (M := mL_low) (as := [_, _]) (st := []) (c_L_low (by decide)) wt_L_low wm_L_low ⟨by omega, by decide⟩ wl_L_8 dL_does_24 rfl (Nat.le_of_ble_eq_true rfl) rfl ?_
  rintro _ _ ⟨rfl, rfl⟩
  refine z_top (fun x3 ex3 => ?_)
  replace Q := Q x3 ex3
  refine z_istore (pc := 27) (ls' := [(4, _), (3, _), (2, _), (0, _), (1, _)]) dL_does_27 (by decide) rfl ?_
  refine z_aload_n (pc := 29) (n := 3) dL_does_29 rfl rfl ?_
  refine z_iconst (pc := 30) (a := 1) dL_does_30 rfl ?_
  obtain ⟨d4, P5, e8, s9, Q⟩ := Q
  refine z_callV (pc := 31) (M := mX6_count) (as := [_]) (st := []) s9 zo_LentParts rfl wi_X6_count wm_X6_count ⟨by omega, by decide⟩ wl_L_14 dL_does_31 rfl (Nat.le_of_ble_eq_true rfl) rfl ?_
  intro r6 h7 s9
  obtain ⟨x10, rfl, Q⟩ := Q _ _ s9
  refine z_istore (pc := 34) (ls' := [(5, _), (4, _), (3, _), (2, _), (0, _), (1, _)]) dL_does_34 (by decide) rfl ?_
  refine z_iload_n (pc := 36) (n := 5) dL_does_36 rfl rfl ?_
  refine z_bipush (pc := 37) (a := 15) dL_does_37 rfl ?_
  refine z_iand (pc := 39) dL_does_39 ?_
  rcases (show (zand a2 15) = 0 ∨ (zand a2 15) = 1 ∨ (zand a2 15) = 2 ∨ (zand a2 15) = 3 ∨ (zand a2 15) = 4 ∨ (zand a2 15) = 5 ∨ (zand a2 15) = 6 ∨ (zand a2 15) = 7 ∨ (zand a2 15) = 8 ∨ (zand a2 15) = 9 ∨ (zand a2 15) = 10 ∨ (zand a2 15) = 11 ∨ (zand a2 15) = 12 ∨ (zand a2 15) = 13 ∨ (zand a2 15) = 14 ∨ ((zand a2 15) < 0 ∨ 14 < (zand a2 15)) by omega) with c | c | c | c | c | c | c | c | c | c | c | c | c | c | c | c
  · replace Q := Q.1 c
    refine z_tableIn (pc := 40) (n := 0) (tgt := 116) dL_does_40 (by omega) (by decide) rfl (by decide) ?_
    refine z_aload_n (pc := 116) (n := 4) dL_does_116 rfl rfl ?_
    refine z_iload_n (pc := 117) (n := 3) dL_does_117 rfl rfl ?_
    refine z_iload_n (pc := 118) (n := 2) dL_does_118 rfl rfl ?_
    refine z_iload (pc := 119) (n := 1) dL_does_119 rfl ?_
    obtain ⟨d11, P12, e15, s16, Q⟩ := Q
    refine z_callV (pc := 121) (M := mX6_half) (as := [_, _, _]) (st := []) s16 zo_LentParts rfl wi_X6_half wm_X6_half ⟨by omega, by decide⟩ wl_L_20 dL_does_121 rfl (Nat.le_of_ble_eq_true rfl) rfl ?_
    intro r13 h14 s16
    obtain ⟨x17, rfl, Q⟩ := Q _ _ s16
    exact z_iret (pc := 124) rfl dL_does_124 Q
  · replace Q := Q.2.1 c
    refine z_tableIn (pc := 40) (n := 1) (tgt := 116) dL_does_40 (by omega) (by decide) rfl (by decide) ?_
    refine z_aload_n (pc := 116) (n := 4) dL_does_116 rfl rfl ?_
    refine z_iload_n (pc := 117) (n := 3) dL_does_117 rfl rfl ?_
    refine z_iload_n (pc := 118) (n := 2) dL_does_118 rfl rfl ?_
    refine z_iload (pc := 119) (n := 1) dL_does_119 rfl ?_
    obtain ⟨d18, P19, e22, s23, Q⟩ := Q
    refine z_callV (pc := 121) (M := mX6_half) (as := [_, _, _]) (st := []) s23 zo_LentParts rfl wi_X6_half wm_X6_half ⟨by omega, by decide⟩ wl_L_20 dL_does_121 rfl (Nat.le_of_ble_eq_true rfl) rfl ?_
    intro r20 h21 s23
    obtain ⟨x24, rfl, Q⟩ := Q _ _ s23
    exact z_iret (pc := 124) rfl dL_does_124 Q
  · replace Q := Q.2.2.1 c
    refine z_tableIn (pc := 40) (n := 2) (tgt := 116) dL_does_40 (by omega) (by decide) rfl (by decide) ?_
    refine z_aload_n (pc := 116) (n := 4) dL_does_116 rfl rfl ?_
    refine z_iload_n (pc := 117) (n := 3) dL_does_117 rfl rfl ?_
    refine z_iload_n (pc := 118) (n := 2) dL_does_118 rfl rfl ?_
    refine z_iload (pc := 119) (n := 1) dL_does_119 rfl ?_
    obtain ⟨d25, P26, e29, s30, Q⟩ := Q
    refine z_callV (pc := 121) (M := mX6_half) (as := [_, _, _]) (st := []) s30 zo_LentParts rfl wi_X6_half wm_X6_half ⟨by omega, by decide⟩ wl_L_20 dL_does_121 rfl (Nat.le_of_ble_eq_true rfl) rfl ?_
    intro r27 h28 s30
    obtain ⟨x31, rfl, Q⟩ := Q _ _ s30
    exact z_iret (pc := 124) rfl dL_does_124 Q
  · replace Q := Q.2.2.2.1 c
    refine z_tableIn (pc := 40) (n := 3) (tgt := 125) dL_does_40 (by omega) (by decide) rfl (by decide) ?_
    refine z_aload_n (pc := 125) (n := 4) dL_does_125 rfl rfl ?_
    refine z_iload_n (pc := 126) (n := 3) dL_does_126 rfl rfl ?_
    refine z_iload_n (pc := 127) (n := 2) dL_does_127 rfl rfl ?_
    refine z_iload (pc := 128) (n := 1) dL_does_128 rfl ?_
    refine z_iconst (pc := 130) (a := 1) dL_does_130 rfl ?_
    refine z_iload_n (pc := 131) (n := 5) dL_does_131 rfl rfl ?_
    refine z_bipush (pc := 132) (a := 12) dL_does_132 rfl ?_
    refine z_ishr (pc := 134) dL_does_134 ?_
    refine z_bipush (pc := 135) (a := 40) dL_does_135 rfl ?_
    refine z_callS (pc := 137) (M := mL_low) (as := [_, _]) (st := [_, _, _, _, _]) (c_L_low (by decide)) wt_L_low wm_L_low ⟨by omega, by decide⟩ wl_L_8 dL_does_137 rfl (Nat.le_of_ble_eq_true rfl) rfl ?_
    rintro _ _ ⟨rfl, rfl⟩
    refine z_iadd (pc := 140) dL_does_140 ?_
    obtain ⟨d32, P33, e36, s37, Q⟩ := Q
    refine z_callV (pc := 141) (M := mX6_lend) (as := [_, _, _, _]) (st := []) s37 zo_LentParts rfl wi_X6_lend wm_X6_lend ⟨by omega, by decide⟩ wl_L_24 dL_does_141 rfl (Nat.le_of_ble_eq_true rfl) rfl ?_
    intro r34 h35 s37
    obtain ⟨x38, rfl, Q⟩ := Q _ _ s37
    exact z_iret (pc := 144) rfl dL_does_144 Q
  · replace Q := Q.2.2.2.2.1 c
    refine z_tableIn (pc := 40) (n := 4) (tgt := 125) dL_does_40 (by omega) (by decide) rfl (by decide) ?_
    refine z_aload_n (pc := 125) (n := 4) dL_does_125 rfl rfl ?_
    refine z_iload_n (pc := 126) (n := 3) dL_does_126 rfl rfl ?_
    refine z_iload_n (pc := 127) (n := 2) dL_does_127 rfl rfl ?_
    refine z_iload (pc := 128) (n := 1) dL_does_128 rfl ?_
    refine z_iconst (pc := 130) (a := 1) dL_does_130 rfl ?_
    refine z_iload_n (pc := 131) (n := 5) dL_does_131 rfl rfl ?_
    refine z_bipush (pc := 132) (a := 12) dL_does_132 rfl ?_
    refine z_ishr (pc := 134) dL_does_134 ?_
    refine z_bipush (pc := 135) (a := 40) dL_does_135 rfl ?_
    refine z_callS (pc := 137) (M := mL_low) (as := [_, _]) (st := [_, _, _, _, _]) (c_L_low (by decide)) wt_L_low wm_L_low ⟨by omega, by decide⟩ wl_L_8 dL_does_137 rfl (Nat.le_of_ble_eq_true rfl) rfl ?_
    rintro _ _ ⟨rfl, rfl⟩
    refine z_iadd (pc := 140) dL_does_140 ?_
    obtain ⟨d39, P40, e43, s44, Q⟩ := Q
    refine z_callV (pc := 141) (M := mX6_lend) (as := [_, _, _, _]) (st := []) s44 zo_LentParts rfl wi_X6_lend wm_X6_lend ⟨by omega, by decide⟩ wl_L_24 dL_does_141 rfl (Nat.le_of_ble_eq_true rfl) rfl ?_
    intro r41 h42 s44
    obtain ⟨x45, rfl, Q⟩ := Q _ _ s44
    exact z_iret (pc := 144) rfl dL_does_144 Q
  · replace Q := Q.2.2.2.2.2.1 c
    refine z_tableIn (pc := 40) (n := 5) (tgt := 145) dL_does_40 (by omega) (by decide) rfl (by decide) ?_
    refine z_aload_n (pc := 145) (n := 4) dL_does_145 rfl rfl ?_
    refine z_iload (pc := 146) (n := 0) dL_does_146 rfl ?_
    refine z_if_ne (pc := 148) (tgt := 155) dL_does_148 (by decide) (fun c => ?_) (fun c => ?_)
    · replace Q := Q.1 c
      refine z_iload_n (pc := 155) (n := 5) dL_does_155 rfl rfl ?_
      refine z_bipush (pc := 156) (a := 6) dL_does_156 rfl ?_
      refine z_ishr (pc := 158) dL_does_158 ?_
      refine z_iload (pc := 159) (n := 0) dL_does_159 rfl ?_
      obtain ⟨c46, Q⟩ := Q
      refine z_callS (pc := 161) (M := mL_low) (as := [_, _]) (st := [_]) (c_L_low c46) wt_L_low wm_L_low ⟨by omega, by decide⟩ wl_L_8 dL_does_161 rfl (Nat.le_of_ble_eq_true rfl) rfl ?_
      rintro _ _ ⟨rfl, rfl⟩
      obtain ⟨d47, P48, e51, s52, Q⟩ := Q
      refine z_callV (pc := 164) (M := mX6_giveBack) (as := [_]) (st := []) s52 zo_LentParts rfl wi_X6_giveBack wm_X6_giveBack ⟨by omega, by decide⟩ wl_L_28 dL_does_164 rfl (Nat.le_of_ble_eq_true rfl) rfl ?_
      intro r49 h50 s52
      obtain ⟨x53, rfl, Q⟩ := Q _ _ s52
      exact z_iret (pc := 167) rfl dL_does_167 Q
    · replace Q := Q.2 c
      refine z_iconst (pc := 151) (a := 0) dL_does_151 rfl ?_
      refine z_goto (pc := 152) (tgt := 164) dL_does_152 (by decide) ?_
      obtain ⟨d54, P55, e58, s59, Q⟩ := Q
      refine z_callV (pc := 164) (M := mX6_giveBack) (as := [_]) (st := []) s59 zo_LentParts rfl wi_X6_giveBack wm_X6_giveBack ⟨by omega, by decide⟩ wl_L_28 dL_does_164 rfl (Nat.le_of_ble_eq_true rfl) rfl ?_
      intro r56 h57 s59
      obtain ⟨x60, rfl, Q⟩ := Q _ _ s59
      exact z_iret (pc := 167) rfl dL_does_167 Q
  · replace Q := Q.2.2.2.2.2.2.1 c
    refine z_tableIn (pc := 40) (n := 6) (tgt := 168) dL_does_40 (by omega) (by decide) rfl (by decide) ?_
    refine z_aload_n (pc := 168) (n := 4) dL_does_168 rfl rfl ?_
    refine z_iload_n (pc := 169) (n := 3) dL_does_169 rfl rfl ?_
    refine z_iload (pc := 170) (n := 1) dL_does_170 rfl ?_
    obtain ⟨d61, P62, e65, s66, Q⟩ := Q
    refine z_callV (pc := 172) (M := mX6_gather) (as := [_, _]) (st := []) s66 zo_LentParts rfl wi_X6_gather wm_X6_gather ⟨by omega, by decide⟩ wl_L_31 dL_does_172 rfl (Nat.le_of_ble_eq_true rfl) rfl ?_
    intro r63 h64 s66
    obtain ⟨x67, rfl, Q⟩ := Q _ _ s66
    exact z_iret (pc := 175) rfl dL_does_175 Q
  · replace Q := Q.2.2.2.2.2.2.2.1 c
    refine z_tableIn (pc := 40) (n := 7) (tgt := 176) dL_does_40 (by omega) (by decide) rfl (by decide) ?_
    refine z_aload_n (pc := 176) (n := 4) dL_does_176 rfl rfl ?_
    refine z_iload_n (pc := 177) (n := 3) dL_does_177 rfl rfl ?_
    refine z_iload (pc := 178) (n := 1) dL_does_178 rfl ?_
    refine z_iload_n (pc := 180) (n := 5) dL_does_180 rfl rfl ?_
    refine z_bipush (pc := 181) (a := 13) dL_does_181 rfl ?_
    refine z_ishr (pc := 183) dL_does_183 ?_
    refine z_iconst (pc := 184) (a := 3) dL_does_184 rfl ?_
    refine z_iand (pc := 185) dL_does_185 ?_
    refine z_if_ne (pc := 186) (tgt := 193) dL_does_186 (by decide) (fun c => ?_) (fun c => ?_)
    · replace Q := Q.1 c
      refine z_iconst (pc := 193) (a := 0) dL_does_193 rfl ?_
      obtain ⟨d68, P69, e72, s73, Q⟩ := Q
      refine z_callV (pc := 194) (M := mX6_hold) (as := [_, _, _]) (st := []) s73 zo_LentParts rfl wi_X6_hold wm_X6_hold ⟨by omega, by decide⟩ wl_L_34 dL_does_194 rfl (Nat.le_of_ble_eq_true rfl) rfl ?_
      intro r70 h71 s73
      obtain ⟨x74, rfl, Q⟩ := Q _ _ s73
      exact z_iret (pc := 197) rfl dL_does_197 Q
    · replace Q := Q.2 c
      refine z_iconst (pc := 189) (a := 1) dL_does_189 rfl ?_
      refine z_goto (pc := 190) (tgt := 194) dL_does_190 (by decide) ?_
      obtain ⟨d75, P76, e79, s80, Q⟩ := Q
      refine z_callV (pc := 194) (M := mX6_hold) (as := [_, _, _]) (st := []) s80 zo_LentParts rfl wi_X6_hold wm_X6_hold ⟨by omega, by decide⟩ wl_L_34 dL_does_194 rfl (Nat.le_of_ble_eq_true rfl) rfl ?_
      intro r77 h78 s80
      obtain ⟨x81, rfl, Q⟩ := Q _ _ s80
      exact z_iret (pc := 197) rfl dL_does_197 Q
  · replace Q := Q.2.2.2.2.2.2.2.2.1 c
    refine z_tableIn (pc := 40) (n := 8) (tgt := 176) dL_does_40 (by omega) (by decide) rfl (by decide) ?_
    refine z_aload_n (pc := 176) (n := 4) dL_does_176 rfl rfl ?_
    refine z_iload_n (pc := 177) (n := 3) dL_does_177 rfl rfl ?_
    refine z_iload (pc := 178) (n := 1) dL_does_178 rfl ?_
    refine z_iload_n (pc := 180) (n := 5) dL_does_180 rfl rfl ?_
    refine z_bipush (pc := 181) (a := 13) dL_does_181 rfl ?_
    refine z_ishr (pc := 183) dL_does_183 ?_
    refine z_iconst (pc := 184) (a := 3) dL_does_184 rfl ?_
    refine z_iand (pc := 185) dL_does_185 ?_
    refine z_if_ne (pc := 186) (tgt := 193) dL_does_186 (by decide) (fun c => ?_) (fun c => ?_)
    · replace Q := Q.1 c
      refine z_iconst (pc := 193) (a := 0) dL_does_193 rfl ?_
      obtain ⟨d82, P83, e86, s87, Q⟩ := Q
      refine z_callV (pc := 194) (M := mX6_hold) (as := [_, _, _]) (st := []) s87 zo_LentParts rfl wi_X6_hold wm_X6_hold ⟨by omega, by decide⟩ wl_L_34 dL_does_194 rfl (Nat.le_of_ble_eq_true rfl) rfl ?_
      intro r84 h85 s87
      obtain ⟨x88, rfl, Q⟩ := Q _ _ s87
      exact z_iret (pc := 197) rfl dL_does_197 Q
    · replace Q := Q.2 c
      refine z_iconst (pc := 189) (a := 1) dL_does_189 rfl ?_
      refine z_goto (pc := 190) (tgt := 194) dL_does_190 (by decide) ?_
      obtain ⟨d89, P90, e93, s94, Q⟩ := Q
      refine z_callV (pc := 194) (M := mX6_hold) (as := [_, _, _]) (st := []) s94 zo_LentParts rfl wi_X6_hold wm_X6_hold ⟨by omega, by decide⟩ wl_L_34 dL_does_194 rfl (Nat.le_of_ble_eq_true rfl) rfl ?_
      intro r91 h92 s94
      obtain ⟨x95, rfl, Q⟩ := Q _ _ s94
      exact z_iret (pc := 197) rfl dL_does_197 Q
  · replace Q := Q.2.2.2.2.2.2.2.2.2.1 c
    refine z_tableIn (pc := 40) (n := 9) (tgt := 198) dL_does_40 (by omega) (by decide) rfl (by decide) ?_
    refine z_aload_n (pc := 198) (n := 4) dL_does_198 rfl rfl ?_
    refine z_iload_n (pc := 199) (n := 3) dL_does_199 rfl rfl ?_
    refine z_iload (pc := 200) (n := 1) dL_does_200 rfl ?_
    refine z_iload_n (pc := 202) (n := 5) dL_does_202 rfl rfl ?_
    refine z_bipush (pc := 203) (a := 12) dL_does_203 rfl ?_
    refine z_ishr (pc := 205) dL_does_205 ?_
    refine z_sipush (pc := 206) (a := 1000) dL_does_206 rfl ?_
    refine z_callS (pc := 209) (M := mL_low) (as := [_, _]) (st := [_, _, _]) (c_L_low (by decide)) wt_L_low wm_L_low ⟨by omega, by decide⟩ wl_L_8 dL_does_209 rfl (Nat.le_of_ble_eq_true rfl) rfl ?_
    rintro _ _ ⟨rfl, rfl⟩
    obtain ⟨d96, P97, e100, s101, Q⟩ := Q
    refine z_callV (pc := 212) (M := mX6_write) (as := [_, _, _]) (st := []) s101 zo_LentParts rfl wi_X6_write wm_X6_write ⟨by omega, by decide⟩ wl_L_38 dL_does_212 rfl (Nat.le_of_ble_eq_true rfl) rfl ?_
    intro r98 h99 s101
    obtain ⟨x102, rfl, Q⟩ := Q _ _ s101
    exact z_iret (pc := 215) rfl dL_does_215 Q
  · replace Q := Q.2.2.2.2.2.2.2.2.2.2.1 c
    refine z_tableIn (pc := 40) (n := 10) (tgt := 216) dL_does_40 (by omega) (by decide) rfl (by decide) ?_
    refine z_aload_n (pc := 216) (n := 4) dL_does_216 rfl rfl ?_
    refine z_iload_n (pc := 217) (n := 3) dL_does_217 rfl rfl ?_
    refine z_iload (pc := 218) (n := 1) dL_does_218 rfl ?_
    refine z_iload_n (pc := 220) (n := 5) dL_does_220 rfl rfl ?_
    refine z_bipush (pc := 221) (a := 13) dL_does_221 rfl ?_
    refine z_ishr (pc := 223) dL_does_223 ?_
    refine z_iconst (pc := 224) (a := 3) dL_does_224 rfl ?_
    refine z_iand (pc := 225) dL_does_225 ?_
    refine z_if_le (pc := 226) (tgt := 233) dL_does_226 (by decide) (fun c => ?_) (fun c => ?_)
    · replace Q := Q.1 c
      refine z_iconst (pc := 233) (a := 0) dL_does_233 rfl ?_
      obtain ⟨d103, P104, e107, s108, Q⟩ := Q
      refine z_callV (pc := 234) (M := mX6_claim) (as := [_, _, _]) (st := []) s108 zo_LentParts rfl wi_X6_claim wm_X6_claim ⟨by omega, by decide⟩ wl_L_41 dL_does_234 rfl (Nat.le_of_ble_eq_true rfl) rfl ?_
      intro r105 h106 s108
      obtain ⟨x109, rfl, Q⟩ := Q _ _ s108
      exact z_iret (pc := 237) rfl dL_does_237 Q
    · replace Q := Q.2 c
      refine z_iconst (pc := 229) (a := 1) dL_does_229 rfl ?_
      refine z_goto (pc := 230) (tgt := 234) dL_does_230 (by decide) ?_
      obtain ⟨d110, P111, e114, s115, Q⟩ := Q
      refine z_callV (pc := 234) (M := mX6_claim) (as := [_, _, _]) (st := []) s115 zo_LentParts rfl wi_X6_claim wm_X6_claim ⟨by omega, by decide⟩ wl_L_41 dL_does_234 rfl (Nat.le_of_ble_eq_true rfl) rfl ?_
      intro r112 h113 s115
      obtain ⟨x116, rfl, Q⟩ := Q _ _ s115
      exact z_iret (pc := 237) rfl dL_does_237 Q
  · replace Q := Q.2.2.2.2.2.2.2.2.2.2.2.1 c
    refine z_tableIn (pc := 40) (n := 11) (tgt := 216) dL_does_40 (by omega) (by decide) rfl (by decide) ?_
    refine z_aload_n (pc := 216) (n := 4) dL_does_216 rfl rfl ?_
    refine z_iload_n (pc := 217) (n := 3) dL_does_217 rfl rfl ?_
    refine z_iload (pc := 218) (n := 1) dL_does_218 rfl ?_
    refine z_iload_n (pc := 220) (n := 5) dL_does_220 rfl rfl ?_
    refine z_bipush (pc := 221) (a := 13) dL_does_221 rfl ?_
    refine z_ishr (pc := 223) dL_does_223 ?_
    refine z_iconst (pc := 224) (a := 3) dL_does_224 rfl ?_
    refine z_iand (pc := 225) dL_does_225 ?_
    refine z_if_le (pc := 226) (tgt := 233) dL_does_226 (by decide) (fun c => ?_) (fun c => ?_)
    · replace Q := Q.1 c
      refine z_iconst (pc := 233) (a := 0) dL_does_233 rfl ?_
      obtain ⟨d117, P118, e121, s122, Q⟩ := Q
      refine z_callV (pc := 234) (M := mX6_claim) (as := [_, _, _]) (st := []) s122 zo_LentParts rfl wi_X6_claim wm_X6_claim ⟨by omega, by decide⟩ wl_L_41 dL_does_234 rfl (Nat.le_of_ble_eq_true rfl) rfl ?_
      intro r119 h120 s122
      obtain ⟨x123, rfl, Q⟩ := Q _ _ s122
      exact z_iret (pc := 237) rfl dL_does_237 Q
    · replace Q := Q.2 c
      refine z_iconst (pc := 229) (a := 1) dL_does_229 rfl ?_
      refine z_goto (pc := 230) (tgt := 234) dL_does_230 (by decide) ?_
      obtain ⟨d124, P125, e128, s129, Q⟩ := Q
      refine z_callV (pc := 234) (M := mX6_claim) (as := [_, _, _]) (st := []) s129 zo_LentParts rfl wi_X6_claim wm_X6_claim ⟨by omega, by decide⟩ wl_L_41 dL_does_234 rfl (Nat.le_of_ble_eq_true rfl) rfl ?_
      intro r126 h127 s129
      obtain ⟨x130, rfl, Q⟩ := Q _ _ s129
      exact z_iret (pc := 237) rfl dL_does_237 Q
  · replace Q := Q.2.2.2.2.2.2.2.2.2.2.2.2.1 c
    refine z_tableIn (pc := 40) (n := 12) (tgt := 238) dL_does_40 (by omega) (by decide) rfl (by decide) ?_
    refine z_aload_n (pc := 238) (n := 4) dL_does_238 rfl rfl ?_
    refine z_iload (pc := 239) (n := 1) dL_does_239 rfl ?_
    obtain ⟨d131, P132, e135, s136, Q⟩ := Q
    refine z_callV (pc := 241) (M := mX6_serve) (as := [_]) (st := []) s136 zo_LentParts rfl wi_X6_serve wm_X6_serve ⟨by omega, by decide⟩ wl_L_44 dL_does_241 rfl (Nat.le_of_ble_eq_true rfl) rfl ?_
    intro r133 h134 s136
    obtain ⟨x137, rfl, Q⟩ := Q _ _ s136
    exact z_iret (pc := 244) rfl dL_does_244 Q
  · replace Q := Q.2.2.2.2.2.2.2.2.2.2.2.2.2.1 c
    refine z_tableIn (pc := 40) (n := 13) (tgt := 238) dL_does_40 (by omega) (by decide) rfl (by decide) ?_
    refine z_aload_n (pc := 238) (n := 4) dL_does_238 rfl rfl ?_
    refine z_iload (pc := 239) (n := 1) dL_does_239 rfl ?_
    obtain ⟨d138, P139, e142, s143, Q⟩ := Q
    refine z_callV (pc := 241) (M := mX6_serve) (as := [_]) (st := []) s143 zo_LentParts rfl wi_X6_serve wm_X6_serve ⟨by omega, by decide⟩ wl_L_44 dL_does_241 rfl (Nat.le_of_ble_eq_true rfl) rfl ?_
    intro r140 h141 s143
    obtain ⟨x144, rfl, Q⟩ := Q _ _ s143
    exact z_iret (pc := 244) rfl dL_does_244 Q
  · replace Q := Q.2.2.2.2.2.2.2.2.2.2.2.2.2.2.1 c
    refine z_tableIn (pc := 40) (n := 14) (tgt := 245) dL_does_40 (by omega) (by decide) rfl (by decide) ?_
    refine z_aload_n (pc := 245) (n := 4) dL_does_245 rfl rfl ?_
    refine z_iload (pc := 246) (n := 1) dL_does_246 rfl ?_
    refine z_iload_n (pc := 248) (n := 3) dL_does_248 rfl rfl ?_
    obtain ⟨d145, P146, e149, s150, Q⟩ := Q
    refine z_callV (pc := 249) (M := mX6_handOver) (as := [_, _]) (st := []) s150 zo_LentParts rfl wi_X6_handOver wm_X6_handOver ⟨by omega, by decide⟩ wl_L_47 dL_does_249 rfl (Nat.le_of_ble_eq_true rfl) rfl ?_
    intro r147 h148 s150
    obtain ⟨x151, rfl, Q⟩ := Q _ _ s150
    exact z_iret (pc := 252) rfl dL_does_252 Q
  · replace Q := Q.2.2.2.2.2.2.2.2.2.2.2.2.2.2.2 c
    refine z_tableOut (pc := 40) (tgt := 253) dL_does_40 c (by decide) ?_
    refine z_aload_n (pc := 253) (n := 4) dL_does_253 rfl rfl ?_
    refine z_aload_n (pc := 254) (n := 4) dL_does_254 rfl rfl ?_
    refine z_iload (pc := 255) (n := 1) dL_does_255 rfl ?_
    refine z_iconst (pc := 257) (a := 2) dL_does_257 rfl ?_
    obtain ⟨d152, P153, e156, s157, Q⟩ := Q
    refine z_callV (pc := 258) (M := mX6_cell) (as := [_, _]) (st := [_]) s157 zo_LentParts rfl wi_X6_cell wm_X6_cell ⟨by omega, by decide⟩ wl_L_50 dL_does_258 rfl (Nat.le_of_ble_eq_true rfl) rfl ?_
    intro r154 h155 s157
    obtain ⟨x158, rfl, Q⟩ := Q _ _ s157
    refine z_iload_n (pc := 261) (n := 2) dL_does_261 rfl rfl ?_
    refine z_iload (pc := 262) (n := 1) dL_does_262 rfl ?_
    refine z_iconst (pc := 264) (a := 1) dL_does_264 rfl ?_
    refine z_iload_n (pc := 265) (n := 5) dL_does_265 rfl rfl ?_
    refine z_bipush (pc := 266) (a := 12) dL_does_266 rfl ?_
    refine z_ishr (pc := 268) dL_does_268 ?_
    refine z_bipush (pc := 269) (a := 64) dL_does_269 rfl ?_
    refine z_callS (pc := 271) (M := mL_low) (as := [_, _]) (st := [_, _, _, _, _]) (c_L_low (by decide)) wt_L_low wm_L_low ⟨by omega, by decide⟩ wl_L_8 dL_does_271 rfl (Nat.le_of_ble_eq_true rfl) rfl ?_
    rintro _ _ ⟨rfl, rfl⟩
    refine z_iadd (pc := 274) dL_does_274 ?_
    obtain ⟨d159, P160, e163, s164, Q⟩ := Q
    refine z_callV (pc := 275) (M := mX6_lend) (as := [_, _, _, _]) (st := []) s164 zo_LentParts rfl wi_X6_lend wm_X6_lend ⟨by omega, by decide⟩ wl_L_24 dL_does_275 rfl (Nat.le_of_ble_eq_true rfl) rfl ?_
    intro r161 h162 s164
    obtain ⟨x165, rfl, Q⟩ := Q _ _ s164
    exact z_iret (pc := 278) rfl dL_does_278 Q
set_option maxHeartbeats 4000000 in
set_option maxRecDepth 100000 in
theorem k_L_isCellSo_0 {d : Nat} {Post : Option zA → zH → Prop} {Γ : zCx} {h : zH} {a2 : Int}  (hd : 1 ≤ d) (Q :
 zV RL cL_isCellSo 15 (some .boolean) d Post Γ 23 [(0, zR 0), (1, zI a2), (2, zI 0), (3, zI 0), (4, zI 0), (5, zI (-5)), (6, zI 0), (7, zI 0), (8, zI 0), (9, zI 0)] [] h) :
    zV RL cL_isCellSo 15 (some .boolean) d Post Γ 0 [(0, zR 0), (1, zI a2)] [] h := by
  refine z_iconst (pc := 0) (a := 0) dL_isCellSo_0 rfl ?_
  refine z_istore_n (pc := 1) (ls' := [(2, _), (0, _), (1, _)]) dL_isCellSo_1 rfl (by decide) rfl ?_
  refine z_iconst (pc := 2) (a := 0) dL_isCellSo_2 rfl ?_
  refine z_istore_n (pc := 3) (ls' := [(3, _), (2, _), (0, _), (1, _)]) dL_isCellSo_3 rfl (by decide) rfl ?_
  refine z_iconst (pc := 4) (a := 0) dL_isCellSo_4 rfl ?_
  refine z_istore (pc := 5) (ls' := [(4, _), (3, _), (2, _), (0, _), (1, _)]) dL_isCellSo_5 (by decide) rfl ?_
  refine z_bipush (pc := 7) (a := -5) dL_isCellSo_7 rfl ?_
  refine z_istore (pc := 9) (ls' := [(5, _), (4, _), (3, _), (2, _), (0, _), (1, _)]) dL_isCellSo_9 (by decide) rfl ?_
  refine z_iconst (pc := 11) (a := 0) dL_isCellSo_11 rfl ?_
  refine z_istore (pc := 12) (ls' := [(6, _), (5, _), (4, _), (3, _), (2, _), (0, _), (1, _)]) dL_isCellSo_12 (by decide) rfl ?_
  refine z_iconst (pc := 14) (a := 0) dL_isCellSo_14 rfl ?_
  refine z_istore (pc := 15) (ls' := [(7, _), (6, _), (5, _), (4, _), (3, _), (2, _), (0, _), (1, _)]) dL_isCellSo_15 (by decide) rfl ?_
  refine z_iconst (pc := 17) (a := 0) dL_isCellSo_17 rfl ?_
  refine z_istore (pc := 18) (ls' := [(8, _), (7, _), (6, _), (5, _), (4, _), (3, _), (2, _), (0, _), (1, _)]) dL_isCellSo_18 (by decide) rfl ?_
  refine z_iconst (pc := 20) (a := 0) dL_isCellSo_20 rfl ?_
  refine z_istore (pc := 21) (ls' := [(9, _), (8, _), (7, _), (6, _), (5, _), (4, _), (3, _), (2, _), (0, _), (1, _)]) dL_isCellSo_21 (by decide) rfl ?_
  exact z_sub (ks := [8, 9, 7, 6, 5, 4, 3, 2, 1, 0]) rfl Q
set_option maxHeartbeats 4000000 in
set_option maxRecDepth 100000 in
theorem k_L_isCellSo_23 {d : Nat} {Post : Option zA → zH → Prop} {Γ : zCx} {h : zH} {v1 : Int} {v2 : Int} {v3 : Int} {v4 : Int} {v5 : Int} {v6 : Int} {v7 : Int} {v8 : Int} {v9 : Int}  (hd : 1 ≤ d) (Q :
 ∃ (d1 : Nat) (P2 : Option zA → zH → Prop), d1 + 1 ≤ d ∧ zSp d1 mX6_count [zR 0, zI 1] h P2 ∧ ∀ r3 h4, P2 r3 h4 →
 ∃ x7 : Int, r3 = some (zI x7) ∧
 ((x7 ≤ v9 →
  zV RL cL_isCellSo 15 (some .boolean) d Post Γ 63 [(0, zR 0), (1, zI v1), (2, zI v2), (3, zI v3), (4, zI v4), (5, zI v5), (6, zI v6), (7, zI v7), (8, zI v8), (9, zI 0)] [] h4) ∧
 (¬ x7 ≤ v9 →
  ∃ (d8 : Nat) (P9 : Option zA → zH → Prop), d8 + 1 ≤ d ∧ zSp d8 mX6_loan [zR 0, zI v9, zI 2] h4 P9 ∧ ∀ r10 h11, P9 r10 h11 →
  ∃ x14 : Int, r10 = some (zI x14) ∧
  ((¬ x14 = v1 →
   ∀ x15 : Int, x15 = (zwr (v8 + 0)) →
   ∀ x16 : Int, x16 = zwr (v9 + 1) →
   zV RL cL_isCellSo 15 (some .boolean) d Post Γ 23 [(0, zR 0), (1, zI v1), (2, zI v2), (3, zI v3), (4, zI v4), (5, zI v5), (6, zI v6), (7, zI v7), (8, zI x15), (9, zI x16)] [] h11) ∧
  (x14 = v1 →
   ∀ x17 : Int, x17 = (zwr (v8 + 1)) →
   ∀ x18 : Int, x18 = zwr (v9 + 1) →
   zV RL cL_isCellSo 15 (some .boolean) d Post Γ 23 [(0, zR 0), (1, zI v1), (2, zI v2), (3, zI v3), (4, zI v4), (5, zI v5), (6, zI v6), (7, zI v7), (8, zI x17), (9, zI x18)] [] h11))))) :
    zV RL cL_isCellSo 15 (some .boolean) d Post Γ 23 [(0, zR 0), (1, zI v1), (2, zI v2), (3, zI v3), (4, zI v4), (5, zI v5), (6, zI v6), (7, zI v7), (8, zI v8), (9, zI v9)] [] h := by
  refine z_iload (pc := 23) (n := 9) dL_isCellSo_23 rfl ?_
  refine z_aload_n (pc := 25) (n := 0) dL_isCellSo_25 rfl rfl ?_
  refine z_iconst (pc := 26) (a := 1) dL_isCellSo_26 rfl ?_
  obtain ⟨d1, P2, e5, s6, Q⟩ := Q
  refine z_callV (pc := 27) (M := mX6_count) (as := [_]) (st := [_]) s6 zo_LentParts rfl wi_X6_count wm_X6_count ⟨by omega, by decide⟩ wl_L_14 dL_isCellSo_27 rfl (Nat.le_of_ble_eq_true rfl) rfl ?_
  intro r3 h4 s6
  obtain ⟨x7, rfl, Q⟩ := Q _ _ s6
  refine z_icmp_ge (pc := 30) (tgt := 60) dL_isCellSo_30 (by decide) (fun c => ?_) (fun c => ?_)
  · replace Q := Q.1 c
    refine z_iconst (pc := 60) (a := 0) dL_isCellSo_60 rfl ?_
    refine z_istore (pc := 61) (ls' := [(9, _), (0, _), (1, _), (2, _), (3, _), (4, _), (5, _), (6, _), (7, _), (8, _)]) dL_isCellSo_61 (by decide) rfl ?_
    exact z_sub (ks := [1, 2, 3, 4, 5, 6, 7, 8, 9, 0]) rfl Q
  · replace Q := Q.2 c
    refine z_iload (pc := 33) (n := 8) dL_isCellSo_33 rfl ?_
    refine z_aload_n (pc := 35) (n := 0) dL_isCellSo_35 rfl rfl ?_
    refine z_iload (pc := 36) (n := 9) dL_isCellSo_36 rfl ?_
    refine z_iconst (pc := 38) (a := 2) dL_isCellSo_38 rfl ?_
    obtain ⟨d8, P9, e12, s13, Q⟩ := Q
    refine z_callV (pc := 39) (M := mX6_loan) (as := [_, _]) (st := [_]) s13 zo_LentParts rfl wi_X6_loan wm_X6_loan ⟨by omega, by decide⟩ wl_L_53 dL_isCellSo_39 rfl (Nat.le_of_ble_eq_true rfl) rfl ?_
    intro r10 h11 s13
    obtain ⟨x14, rfl, Q⟩ := Q _ _ s13
    refine z_iload_n (pc := 42) (n := 1) dL_isCellSo_42 rfl rfl ?_
    refine z_icmp_ne (pc := 43) (tgt := 50) dL_isCellSo_43 (by decide) (fun c => ?_) (fun c => ?_)
    · replace Q := Q.1 c
      refine z_iconst (pc := 50) (a := 0) dL_isCellSo_50 rfl ?_
      refine z_iadd (pc := 51) dL_isCellSo_51 ?_
      refine z_top (fun x15 ex15 => ?_)
      replace Q := Q x15 ex15
      refine z_istore (pc := 52) (ls' := [(8, _), (0, _), (1, _), (2, _), (3, _), (4, _), (5, _), (6, _), (7, _), (9, _)]) dL_isCellSo_52 (by decide) rfl ?_
      refine z_iincg (pc := 54) (n := 9) (lf := fun y => [(9, zI y), (8, _), (0, _), (1, _), (2, _), (3, _), (4, _), (5, _), (6, _), (7, _)]) dL_isCellSo_54 rfl (by decide) (fun _ => rfl) (fun x16 ex16 => ?_)
      replace Q := Q x16 ex16
      refine z_goto (pc := 57) (tgt := 23) dL_isCellSo_57 (by decide) ?_
      exact z_sub (ks := [2, 3, 4, 5, 6, 7, 8, 9, 1, 0]) rfl Q
    · replace Q := Q.2 c
      refine z_iconst (pc := 46) (a := 1) dL_isCellSo_46 rfl ?_
      refine z_goto (pc := 47) (tgt := 51) dL_isCellSo_47 (by decide) ?_
      refine z_iadd (pc := 51) dL_isCellSo_51 ?_
      refine z_top (fun x17 ex17 => ?_)
      replace Q := Q x17 ex17
      refine z_istore (pc := 52) (ls' := [(8, _), (0, _), (1, _), (2, _), (3, _), (4, _), (5, _), (6, _), (7, _), (9, _)]) dL_isCellSo_52 (by decide) rfl ?_
      refine z_iincg (pc := 54) (n := 9) (lf := fun y => [(9, zI y), (8, _), (0, _), (1, _), (2, _), (3, _), (4, _), (5, _), (6, _), (7, _)]) dL_isCellSo_54 rfl (by decide) (fun _ => rfl) (fun x18 ex18 => ?_)
      replace Q := Q x18 ex18
      refine z_goto (pc := 57) (tgt := 23) dL_isCellSo_57 (by decide) ?_
      exact z_sub (ks := [2, 3, 4, 5, 6, 7, 8, 9, 1, 0]) rfl Q
set_option maxHeartbeats 4000000 in
set_option maxRecDepth 100000 in
theorem k_L_isCellSo_63 {d : Nat} {Post : Option zA → zH → Prop} {Γ : zCx} {h : zH} {v1 : Int} {v2 : Int} {v3 : Int} {v4 : Int} {v5 : Int} {v6 : Int} {v7 : Int} {v8 : Int} {v9 : Int}  (hd : 1 ≤ d) (Q :
 ((6 ≤ v9 →
  ((¬ v2 = 64 →
   zV RL cL_isCellSo 15 (some .boolean) d Post Γ 441 [(0, zR 0), (1, zI v1), (2, zI v2), (3, zI v3), (4, zI v4), (5, zI v5), (6, zI v6), (7, zI v7), (8, zI v8), (9, zI v9)] [] h) ∧
  (v2 = 64 →
   ∃ (d1 : Nat) (P2 : Option zA → zH → Prop), d1 + 1 ≤ d ∧ zSp d1 mX6_cell [zR 0, zI v1, zI 3] h P2 ∧ ∀ r3 h4, P2 r3 h4 →
   ∃ x7 : Int, r3 = some (zI x7) ∧
   ((¬ v3 = x7 →
    zV RL cL_isCellSo 15 (some .boolean) d Post Γ 441 [(0, zR 0), (1, zI v1), (2, zI v2), (3, zI v3), (4, zI v4), (5, zI v5), (6, zI v6), (7, zI v7), (8, zI v8), (9, zI v9)] [] h4) ∧
   (v3 = x7 →
    ∃ (d8 : Nat) (P9 : Option zA → zH → Prop), d8 + 1 ≤ d ∧ zSp d8 mX6_cell [zR 0, zI v1, zI 8] h4 P9 ∧ ∀ r10 h11, P9 r10 h11 →
    ∃ x14 : Int, r10 = some (zI x14) ∧
    ((¬ v4 = x14 →
     zV RL cL_isCellSo 15 (some .boolean) d Post Γ 441 [(0, zR 0), (1, zI v1), (2, zI v2), (3, zI v3), (4, zI v4), (5, zI v5), (6, zI v6), (7, zI v7), (8, zI v8), (9, zI v9)] [] h11) ∧
    (v4 = x14 →
     ∃ (d15 : Nat) (P16 : Option zA → zH → Prop), d15 + 1 ≤ d ∧ zSp d15 mX6_cell [zR 0, zI v1, zI 7] h11 P16 ∧ ∀ r17 h18, P16 r17 h18 →
     ∃ x21 : Int, r17 = some (zI x21) ∧
     ((¬ v5 = x21 →
      zV RL cL_isCellSo 15 (some .boolean) d Post Γ 441 [(0, zR 0), (1, zI v1), (2, zI v2), (3, zI v3), (4, zI v4), (5, zI v5), (6, zI v6), (7, zI v7), (8, zI v8), (9, zI v9)] [] h18) ∧
     (v5 = x21 →
      ∃ (d22 : Nat) (P23 : Option zA → zH → Prop), d22 + 1 ≤ d ∧ zSp d22 mX6_cell [zR 0, zI v1, zI 4] h18 P23 ∧ ∀ r24 h25, P23 r24 h25 →
      ∃ x28 : Int, r24 = some (zI x28) ∧
      ((¬ v6 = x28 →
       zV RL cL_isCellSo 15 (some .boolean) d Post Γ 441 [(0, zR 0), (1, zI v1), (2, zI v2), (3, zI v3), (4, zI v4), (5, zI v5), (6, zI v6), (7, zI v7), (8, zI v8), (9, zI v9)] [] h25) ∧
      (v6 = x28 →
       ((¬ v7 = (zwr ((zshl 1 v6) - 1)) →
        zV RL cL_isCellSo 15 (some .boolean) d Post Γ 441 [(0, zR 0), (1, zI v1), (2, zI v2), (3, zI v3), (4, zI v4), (5, zI v5), (6, zI v6), (7, zI v7), (8, zI v8), (9, zI v9)] [] h25) ∧
       (v7 = (zwr ((zshl 1 v6) - 1)) →
        ∃ (d29 : Nat) (P30 : Option zA → zH → Prop), d29 + 1 ≤ d ∧ zSp d29 mX6_cell [zR 0, zI v1, zI 6] h25 P30 ∧ ∀ r31 h32, P30 r31 h32 →
        ∃ x35 : Int, r31 = some (zI x35) ∧
        ((¬ v8 = x35 →
         zV RL cL_isCellSo 15 (some .boolean) d Post Γ 441 [(0, zR 0), (1, zI v1), (2, zI v2), (3, zI v3), (4, zI v4), (5, zI v5), (6, zI v6), (7, zI v7), (8, zI v8), (9, zI v9)] [] h32) ∧
        (v8 = x35 →
         zV RL cL_isCellSo 15 (some .boolean) d Post Γ 442 [(0, zR 0), (1, zI v1), (2, zI v2), (3, zI v3), (4, zI v4), (5, zI v5), (6, zI v6), (7, zI v7), (8, zI v8), (9, zI v9)] [zI 1] h32))))))))))))))) ∧
 (¬ 6 ≤ v9 →
  ∃ (d36 : Nat) (P37 : Option zA → zH → Prop), d36 + 1 ≤ d ∧ zSp d36 mX6_part [zR 0, zI v9, zI v1, zI 0] h P37 ∧ ∀ r38 h39, P37 r38 h39 →
  ∃ x42 : Int, r38 = some (zI x42) ∧
  ∃ (d43 : Nat) (P44 : Option zA → zH → Prop), d43 + 1 ≤ d ∧ zSp d43 mX6_part [zR 0, zI v9, zI v1, zI 4] h39 P44 ∧ ∀ r45 h46, P44 r45 h46 →
  ∃ x49 : Int, r45 = some (zI x49) ∧
  ∃ (d50 : Nat) (P51 : Option zA → zH → Prop), d50 + 1 ≤ d ∧ zSp d50 mX6_part [zR 0, zI v9, zI v1, zI 5] h46 P51 ∧ ∀ r52 h53, P51 r52 h53 →
  ∃ x56 : Int, r52 = some (zI x56) ∧
  ∃ (d57 : Nat) (P58 : Option zA → zH → Prop), d57 + 1 ≤ d ∧ zSp d57 mX6_cell [zR 0, zI v1, zI 2] h53 P58 ∧ ∀ r59 h60, P58 r59 h60 →
  ∃ x63 : Int, r59 = some (zI x63) ∧
  ((¬ v9 = x63 →
   zV RL cL_isCellSo 15 (some .boolean) d Post Γ 117 [(0, zR 0), (1, zI v1), (2, zI v2), (3, zI v3), (4, zI v4), (5, zI v5), (6, zI v6), (7, zI v7), (8, zI v8), (9, zI v9), (10, zI x42), (11, zI x49), (12, zI x56)] [zI 0] h60) ∧
  (v9 = x63 →
   zV RL cL_isCellSo 15 (some .boolean) d Post Γ 117 [(0, zR 0), (1, zI v1), (2, zI v2), (3, zI v3), (4, zI v4), (5, zI v5), (6, zI v6), (7, zI v7), (8, zI v8), (9, zI v9), (10, zI x42), (11, zI x49), (12, zI x56)] [zI 64] h60))))) :
    zV RL cL_isCellSo 15 (some .boolean) d Post Γ 63 [(0, zR 0), (1, zI v1), (2, zI v2), (3, zI v3), (4, zI v4), (5, zI v5), (6, zI v6), (7, zI v7), (8, zI v8), (9, zI v9)] [] h := by
  refine z_iload (pc := 63) (n := 9) dL_isCellSo_63 rfl ?_
  refine z_bipush (pc := 65) (a := 6) dL_isCellSo_65 rfl ?_
  refine z_icmp_ge (pc := 67) (tgt := 363) dL_isCellSo_67 (by decide) (fun c => ?_) (fun c => ?_)
  · replace Q := Q.1 c
    refine z_iload_n (pc := 363) (n := 2) dL_isCellSo_363 rfl rfl ?_
    refine z_bipush (pc := 364) (a := 64) dL_isCellSo_364 rfl ?_
    refine z_icmp_ne (pc := 366) (tgt := 441) dL_isCellSo_366 (by decide) (fun c => ?_) (fun c => ?_)
    · replace Q := Q.1 c
      exact z_sub (ks := [0, 1, 2, 3, 4, 5, 6, 7, 8, 9]) rfl Q
    · replace Q := Q.2 c
      refine z_iload_n (pc := 369) (n := 3) dL_isCellSo_369 rfl rfl ?_
      refine z_aload_n (pc := 370) (n := 0) dL_isCellSo_370 rfl rfl ?_
      refine z_iload_n (pc := 371) (n := 1) dL_isCellSo_371 rfl rfl ?_
      refine z_iconst (pc := 372) (a := 3) dL_isCellSo_372 rfl ?_
      obtain ⟨d1, P2, e5, s6, Q⟩ := Q
      refine z_callV (pc := 373) (M := mX6_cell) (as := [_, _]) (st := [_]) s6 zo_LentParts rfl wi_X6_cell wm_X6_cell ⟨by omega, by decide⟩ wl_L_50 dL_isCellSo_373 rfl (Nat.le_of_ble_eq_true rfl) rfl ?_
      intro r3 h4 s6
      obtain ⟨x7, rfl, Q⟩ := Q _ _ s6
      refine z_icmp_ne (pc := 376) (tgt := 441) dL_isCellSo_376 (by decide) (fun c => ?_) (fun c => ?_)
      · replace Q := Q.1 c
        exact z_sub (ks := [0, 1, 2, 3, 4, 5, 6, 7, 8, 9]) rfl Q
      · replace Q := Q.2 c
        refine z_iload (pc := 379) (n := 4) dL_isCellSo_379 rfl ?_
        refine z_aload_n (pc := 381) (n := 0) dL_isCellSo_381 rfl rfl ?_
        refine z_iload_n (pc := 382) (n := 1) dL_isCellSo_382 rfl rfl ?_
        refine z_bipush (pc := 383) (a := 8) dL_isCellSo_383 rfl ?_
        obtain ⟨d8, P9, e12, s13, Q⟩ := Q
        refine z_callV (pc := 385) (M := mX6_cell) (as := [_, _]) (st := [_]) s13 zo_LentParts rfl wi_X6_cell wm_X6_cell ⟨by omega, by decide⟩ wl_L_50 dL_isCellSo_385 rfl (Nat.le_of_ble_eq_true rfl) rfl ?_
        intro r10 h11 s13
        obtain ⟨x14, rfl, Q⟩ := Q _ _ s13
        refine z_icmp_ne (pc := 388) (tgt := 441) dL_isCellSo_388 (by decide) (fun c => ?_) (fun c => ?_)
        · replace Q := Q.1 c
          exact z_sub (ks := [0, 1, 2, 3, 4, 5, 6, 7, 8, 9]) rfl Q
        · replace Q := Q.2 c
          refine z_iload (pc := 391) (n := 5) dL_isCellSo_391 rfl ?_
          refine z_aload_n (pc := 393) (n := 0) dL_isCellSo_393 rfl rfl ?_
          refine z_iload_n (pc := 394) (n := 1) dL_isCellSo_394 rfl rfl ?_
          refine z_bipush (pc := 395) (a := 7) dL_isCellSo_395 rfl ?_
          obtain ⟨d15, P16, e19, s20, Q⟩ := Q
          refine z_callV (pc := 397) (M := mX6_cell) (as := [_, _]) (st := [_]) s20 zo_LentParts rfl wi_X6_cell wm_X6_cell ⟨by omega, by decide⟩ wl_L_50 dL_isCellSo_397 rfl (Nat.le_of_ble_eq_true rfl) rfl ?_
          intro r17 h18 s20
          obtain ⟨x21, rfl, Q⟩ := Q _ _ s20
          refine z_icmp_ne (pc := 400) (tgt := 441) dL_isCellSo_400 (by decide) (fun c => ?_) (fun c => ?_)
          · replace Q := Q.1 c
            exact z_sub (ks := [0, 1, 2, 3, 4, 5, 6, 7, 8, 9]) rfl Q
          · replace Q := Q.2 c
            refine z_iload (pc := 403) (n := 6) dL_isCellSo_403 rfl ?_
            refine z_aload_n (pc := 405) (n := 0) dL_isCellSo_405 rfl rfl ?_
            refine z_iload_n (pc := 406) (n := 1) dL_isCellSo_406 rfl rfl ?_
            refine z_iconst (pc := 407) (a := 4) dL_isCellSo_407 rfl ?_
            obtain ⟨d22, P23, e26, s27, Q⟩ := Q
            refine z_callV (pc := 408) (M := mX6_cell) (as := [_, _]) (st := [_]) s27 zo_LentParts rfl wi_X6_cell wm_X6_cell ⟨by omega, by decide⟩ wl_L_50 dL_isCellSo_408 rfl (Nat.le_of_ble_eq_true rfl) rfl ?_
            intro r24 h25 s27
            obtain ⟨x28, rfl, Q⟩ := Q _ _ s27
            refine z_icmp_ne (pc := 411) (tgt := 441) dL_isCellSo_411 (by decide) (fun c => ?_) (fun c => ?_)
            · replace Q := Q.1 c
              exact z_sub (ks := [0, 1, 2, 3, 4, 5, 6, 7, 8, 9]) rfl Q
            · replace Q := Q.2 c
              refine z_iload (pc := 414) (n := 7) dL_isCellSo_414 rfl ?_
              refine z_iconst (pc := 416) (a := 1) dL_isCellSo_416 rfl ?_
              refine z_iload (pc := 417) (n := 6) dL_isCellSo_417 rfl ?_
              refine z_ishl (pc := 419) dL_isCellSo_419 ?_
              refine z_iconst (pc := 420) (a := 1) dL_isCellSo_420 rfl ?_
              refine z_isub (pc := 421) dL_isCellSo_421 ?_
              refine z_icmp_ne (pc := 422) (tgt := 441) dL_isCellSo_422 (by decide) (fun c => ?_) (fun c => ?_)
              · replace Q := Q.1 c
                exact z_sub (ks := [0, 1, 2, 3, 4, 5, 6, 7, 8, 9]) rfl Q
              · replace Q := Q.2 c
                refine z_iload (pc := 425) (n := 8) dL_isCellSo_425 rfl ?_
                refine z_aload_n (pc := 427) (n := 0) dL_isCellSo_427 rfl rfl ?_
                refine z_iload_n (pc := 428) (n := 1) dL_isCellSo_428 rfl rfl ?_
                refine z_bipush (pc := 429) (a := 6) dL_isCellSo_429 rfl ?_
                obtain ⟨d29, P30, e33, s34, Q⟩ := Q
                refine z_callV (pc := 431) (M := mX6_cell) (as := [_, _]) (st := [_]) s34 zo_LentParts rfl wi_X6_cell wm_X6_cell ⟨by omega, by decide⟩ wl_L_50 dL_isCellSo_431 rfl (Nat.le_of_ble_eq_true rfl) rfl ?_
                intro r31 h32 s34
                obtain ⟨x35, rfl, Q⟩ := Q _ _ s34
                refine z_icmp_ne (pc := 434) (tgt := 441) dL_isCellSo_434 (by decide) (fun c => ?_) (fun c => ?_)
                · replace Q := Q.1 c
                  exact z_sub (ks := [0, 1, 2, 3, 4, 5, 6, 7, 8, 9]) rfl Q
                · replace Q := Q.2 c
                  refine z_iconst (pc := 437) (a := 1) dL_isCellSo_437 rfl ?_
                  refine z_goto (pc := 438) (tgt := 442) dL_isCellSo_438 (by decide) ?_
                  exact z_sub (ks := [0, 1, 2, 3, 4, 5, 6, 7, 8, 9]) rfl Q
  · replace Q := Q.2 c
    refine z_aload_n (pc := 70) (n := 0) dL_isCellSo_70 rfl rfl ?_
    refine z_iload (pc := 71) (n := 9) dL_isCellSo_71 rfl ?_
    refine z_iload_n (pc := 73) (n := 1) dL_isCellSo_73 rfl rfl ?_
    refine z_iconst (pc := 74) (a := 0) dL_isCellSo_74 rfl ?_
    obtain ⟨d36, P37, e40, s41, Q⟩ := Q
    refine z_callV (pc := 75) (M := mX6_part) (as := [_, _, _]) (st := []) s41 zo_LentParts rfl wi_X6_part wm_X6_part ⟨by omega, by decide⟩ wl_L_56 dL_isCellSo_75 rfl (Nat.le_of_ble_eq_true rfl) rfl ?_
    intro r38 h39 s41
    obtain ⟨x42, rfl, Q⟩ := Q _ _ s41
    refine z_istore (pc := 78) (ls' := [(10, _), (0, _), (1, _), (2, _), (3, _), (4, _), (5, _), (6, _), (7, _), (8, _), (9, _)]) dL_isCellSo_78 (by decide) rfl ?_
    refine z_aload_n (pc := 80) (n := 1) dL_isCellSo_80 rfl rfl ?_
    refine z_iload (pc := 81) (n := 10) dL_isCellSo_81 rfl ?_
    refine z_iload_n (pc := 83) (n := 2) dL_isCellSo_83 rfl rfl ?_
    refine z_iconst (pc := 84) (a := 4) dL_isCellSo_84 rfl ?_
    obtain ⟨d43, P44, e47, s48, Q⟩ := Q
    refine z_callV (pc := 85) (M := mX6_part) (as := [_, _, _]) (st := []) s48 zo_LentParts rfl wi_X6_part wm_X6_part ⟨by omega, by decide⟩ wl_L_56 dL_isCellSo_85 rfl (Nat.le_of_ble_eq_true rfl) rfl ?_
    intro r45 h46 s48
    obtain ⟨x49, rfl, Q⟩ := Q _ _ s48
    refine z_istore (pc := 88) (ls' := [(11, _), (10, _), (0, _), (1, _), (2, _), (3, _), (4, _), (5, _), (6, _), (7, _), (8, _), (9, _)]) dL_isCellSo_88 (by decide) rfl ?_
    refine z_aload_n (pc := 90) (n := 2) dL_isCellSo_90 rfl rfl ?_
    refine z_iload (pc := 91) (n := 11) dL_isCellSo_91 rfl ?_
    refine z_iload_n (pc := 93) (n := 3) dL_isCellSo_93 rfl rfl ?_
    refine z_iconst (pc := 94) (a := 5) dL_isCellSo_94 rfl ?_
    obtain ⟨d50, P51, e54, s55, Q⟩ := Q
    refine z_callV (pc := 95) (M := mX6_part) (as := [_, _, _]) (st := []) s55 zo_LentParts rfl wi_X6_part wm_X6_part ⟨by omega, by decide⟩ wl_L_56 dL_isCellSo_95 rfl (Nat.le_of_ble_eq_true rfl) rfl ?_
    intro r52 h53 s55
    obtain ⟨x56, rfl, Q⟩ := Q _ _ s55
    refine z_istore (pc := 98) (ls' := [(12, _), (11, _), (10, _), (0, _), (1, _), (2, _), (3, _), (4, _), (5, _), (6, _), (7, _), (8, _), (9, _)]) dL_isCellSo_98 (by decide) rfl ?_
    refine z_iload (pc := 100) (n := 12) dL_isCellSo_100 rfl ?_
    refine z_aload_n (pc := 102) (n := 3) dL_isCellSo_102 rfl rfl ?_
    refine z_iload_n (pc := 103) (n := 4) dL_isCellSo_103 rfl rfl ?_
    refine z_iconst (pc := 104) (a := 2) dL_isCellSo_104 rfl ?_
    obtain ⟨d57, P58, e61, s62, Q⟩ := Q
    refine z_callV (pc := 105) (M := mX6_cell) (as := [_, _]) (st := [_]) s62 zo_LentParts rfl wi_X6_cell wm_X6_cell ⟨by omega, by decide⟩ wl_L_50 dL_isCellSo_105 rfl (Nat.le_of_ble_eq_true rfl) rfl ?_
    intro r59 h60 s62
    obtain ⟨x63, rfl, Q⟩ := Q _ _ s62
    refine z_icmp_ne (pc := 108) (tgt := 116) dL_isCellSo_108 (by decide) (fun c => ?_) (fun c => ?_)
    · replace Q := Q.1 c
      refine z_iconst (pc := 116) (a := 0) dL_isCellSo_116 rfl ?_
      exact z_sub (ks := [3, 4, 5, 6, 7, 8, 9, 10, 11, 12, 2, 1, 0]) rfl Q
    · replace Q := Q.2 c
      refine z_bipush (pc := 111) (a := 64) dL_isCellSo_111 rfl ?_
      refine z_goto (pc := 113) (tgt := 117) dL_isCellSo_113 (by decide) ?_
      exact z_sub (ks := [3, 4, 5, 6, 7, 8, 9, 10, 11, 12, 2, 1, 0]) rfl Q
set_option maxHeartbeats 4000000 in
set_option maxRecDepth 100000 in
theorem k_L_isCellSo_117 {d : Nat} {Post : Option zA → zH → Prop} {Γ : zCx} {h : zH} {v1 : Int} {v2 : Int} {v3 : Int} {v4 : Int} {v5 : Int} {v6 : Int} {v7 : Int} {v8 : Int} {v9 : Int} {v10 : Int} {v11 : Int} {v12 : Int} {w0 : Int}  (hd : 1 ≤ d) (Q :
 ∀ x1 : Int, x1 = (zwr (v2 + v10)) →
 ((v10 ≤ 0 →
  zV RL cL_isCellSo 15 (some .boolean) d Post Γ 135 [(0, zR 0), (1, zI v1), (2, zI x1), (3, zI v3), (4, zI v4), (5, zI v5), (6, zI v6), (7, zI v7), (8, zI v8), (9, zI v9), (10, zI v10), (11, zI v11), (12, zI v12), (13, zI w0)] [zI 0, zI v3] h) ∧
 (¬ v10 ≤ 0 →
  zV RL cL_isCellSo 15 (some .boolean) d Post Γ 135 [(0, zR 0), (1, zI v1), (2, zI x1), (3, zI v3), (4, zI v4), (5, zI v5), (6, zI v6), (7, zI v7), (8, zI v8), (9, zI v9), (10, zI v10), (11, zI v11), (12, zI v12), (13, zI w0)] [zI 1, zI v3] h))) :
    zV RL cL_isCellSo 15 (some .boolean) d Post Γ 117 [(0, zR 0), (1, zI v1), (2, zI v2), (3, zI v3), (4, zI v4), (5, zI v5), (6, zI v6), (7, zI v7), (8, zI v8), (9, zI v9), (10, zI v10), (11, zI v11), (12, zI v12)] [zI w0] h := by
  refine z_istore (pc := 117) (ls' := [(13, _), (0, _), (1, _), (2, _), (3, _), (4, _), (5, _), (6, _), (7, _), (8, _), (9, _), (10, _), (11, _), (12, _)]) dL_isCellSo_117 (by decide) rfl ?_
  refine z_iload_n (pc := 119) (n := 3) dL_isCellSo_119 rfl rfl ?_
  refine z_iload (pc := 120) (n := 11) dL_isCellSo_120 rfl ?_
  refine z_iadd (pc := 122) dL_isCellSo_122 ?_
  refine z_top (fun x1 ex1 => ?_)
  replace Q := Q x1 ex1
  refine z_istore_n (pc := 123) (ls' := [(2, _), (13, _), (0, _), (1, _), (3, _), (4, _), (5, _), (6, _), (7, _), (8, _), (9, _), (10, _), (11, _), (12, _)]) dL_isCellSo_123 rfl (by decide) rfl ?_
  refine z_iload_n (pc := 124) (n := 4) dL_isCellSo_124 rfl rfl ?_
  refine z_iload (pc := 125) (n := 11) dL_isCellSo_125 rfl ?_
  refine z_if_le (pc := 127) (tgt := 134) dL_isCellSo_127 (by decide) (fun c => ?_) (fun c => ?_)
  · replace Q := Q.1 c
    refine z_iconst (pc := 134) (a := 0) dL_isCellSo_134 rfl ?_
    exact z_sub (ks := [2, 3, 0, 4, 5, 6, 7, 8, 9, 10, 11, 12, 13, 1]) rfl Q
  · replace Q := Q.2 c
    refine z_iconst (pc := 130) (a := 1) dL_isCellSo_130 rfl ?_
    refine z_goto (pc := 131) (tgt := 135) dL_isCellSo_131 (by decide) ?_
    exact z_sub (ks := [2, 3, 0, 4, 5, 6, 7, 8, 9, 10, 11, 12, 13, 1]) rfl Q
set_option maxHeartbeats 4000000 in
set_option maxRecDepth 100000 in
theorem k_L_isCellSo_135 {d : Nat} {Post : Option zA → zH → Prop} {Γ : zCx} {h : zH} {v1 : Int} {v2 : Int} {v3 : Int} {v4 : Int} {v5 : Int} {v6 : Int} {v7 : Int} {v8 : Int} {v9 : Int} {v10 : Int} {v11 : Int} {v12 : Int} {v13 : Int} {w0 : Int} {w1 : Int}  (hd : 1 ≤ d) (Q :
 ∀ x1 : Int, x1 = (zwr (w1 + w0)) →
 ∃ (d2 : Nat) (P3 : Option zA → zH → Prop), d2 + 1 ≤ d ∧ zSp d2 mX6_part [zR 0, zI v9, zI v1, zI 3] h P3 ∧ ∀ r4 h5, P3 r4 h5 →
 ∃ x8 : Int, r4 = some (zI x8) ∧
 ∀ x9 : Int, x9 = (zwr (v4 + x8)) →
 ((¬ v10 = 64 →
  zV RL cL_isCellSo 15 (some .boolean) d Post Γ 164 [(0, zR 0), (1, zI v1), (2, zI v2), (3, zI x1), (4, zI x9), (5, zI v5), (6, zI v6), (7, zI v7), (8, zI v8), (9, zI v9), (10, zI v10), (11, zI v11), (12, zI v12), (13, zI v13)] [zI v5] h5) ∧
 (v10 = 64 →
  zV RL cL_isCellSo 15 (some .boolean) d Post Γ 164 [(0, zR 0), (1, zI v1), (2, zI v2), (3, zI x1), (4, zI x9), (5, zI v5), (6, zI v6), (7, zI v7), (8, zI v8), (9, zI v9), (10, zI v10), (11, zI v11), (12, zI v12), (13, zI v13)] [zI v9] h5))) :
    zV RL cL_isCellSo 15 (some .boolean) d Post Γ 135 [(0, zR 0), (1, zI v1), (2, zI v2), (3, zI v3), (4, zI v4), (5, zI v5), (6, zI v6), (7, zI v7), (8, zI v8), (9, zI v9), (10, zI v10), (11, zI v11), (12, zI v12), (13, zI v13)] [zI w0, zI w1] h := by
  refine z_iadd (pc := 135) dL_isCellSo_135 ?_
  refine z_top (fun x1 ex1 => ?_)
  replace Q := Q x1 ex1
  refine z_istore_n (pc := 136) (ls' := [(3, _), (0, _), (1, _), (2, _), (4, _), (5, _), (6, _), (7, _), (8, _), (9, _), (10, _), (11, _), (12, _), (13, _)]) dL_isCellSo_136 rfl (by decide) rfl ?_
  refine z_iload (pc := 137) (n := 4) dL_isCellSo_137 rfl ?_
  refine z_aload_n (pc := 139) (n := 1) dL_isCellSo_139 rfl rfl ?_
  refine z_iload (pc := 140) (n := 9) dL_isCellSo_140 rfl ?_
  refine z_iload_n (pc := 142) (n := 2) dL_isCellSo_142 rfl rfl ?_
  refine z_iconst (pc := 143) (a := 3) dL_isCellSo_143 rfl ?_
  obtain ⟨d2, P3, e6, s7, Q⟩ := Q
  refine z_callV (pc := 144) (M := mX6_part) (as := [_, _, _]) (st := [_]) s7 zo_LentParts rfl wi_X6_part wm_X6_part ⟨by omega, by decide⟩ wl_L_56 dL_isCellSo_144 rfl (Nat.le_of_ble_eq_true rfl) rfl ?_
  intro r4 h5 s7
  obtain ⟨x8, rfl, Q⟩ := Q _ _ s7
  refine z_iadd (pc := 147) dL_isCellSo_147 ?_
  refine z_top (fun x9 ex9 => ?_)
  replace Q := Q x9 ex9
  refine z_istore (pc := 148) (ls' := [(4, _), (3, _), (0, _), (1, _), (2, _), (5, _), (6, _), (7, _), (8, _), (9, _), (10, _), (11, _), (12, _), (13, _)]) dL_isCellSo_148 (by decide) rfl ?_
  refine z_iload (pc := 150) (n := 10) dL_isCellSo_150 rfl ?_
  refine z_bipush (pc := 152) (a := 64) dL_isCellSo_152 rfl ?_
  refine z_icmp_ne (pc := 154) (tgt := 162) dL_isCellSo_154 (by decide) (fun c => ?_) (fun c => ?_)
  · replace Q := Q.1 c
    refine z_iload (pc := 162) (n := 5) dL_isCellSo_162 rfl ?_
    exact z_sub (ks := [2, 3, 4, 1, 0, 5, 6, 7, 8, 9, 10, 11, 12, 13]) rfl Q
  · replace Q := Q.2 c
    refine z_iload (pc := 157) (n := 9) dL_isCellSo_157 rfl ?_
    refine z_goto (pc := 159) (tgt := 164) dL_isCellSo_159 (by decide) ?_
    exact z_sub (ks := [2, 3, 4, 1, 0, 5, 6, 7, 8, 9, 10, 11, 12, 13]) rfl Q
set_option maxHeartbeats 4000000 in
set_option maxRecDepth 100000 in
theorem k_L_isCellSo_164 {d : Nat} {Post : Option zA → zH → Prop} {Γ : zCx} {h : zH} {v1 : Int} {v2 : Int} {v3 : Int} {v4 : Int} {v5 : Int} {v6 : Int} {v7 : Int} {v8 : Int} {v9 : Int} {v10 : Int} {v11 : Int} {v12 : Int} {v13 : Int} {w0 : Int}  (hd : 1 ≤ d) (Q :
 ((v11 < 0 →
  zV RL cL_isCellSo 15 (some .boolean) d Post Γ 178 [(0, zR 0), (1, zI v1), (2, zI v2), (3, zI v3), (4, zI v4), (5, zI w0), (6, zI v6), (7, zI v7), (8, zI v8), (9, zI v9), (10, zI v10), (11, zI v11), (12, zI v12), (13, zI v13)] [zI 0, zI v6] h) ∧
 (¬ v11 < 0 →
  zV RL cL_isCellSo 15 (some .boolean) d Post Γ 178 [(0, zR 0), (1, zI v1), (2, zI v2), (3, zI v3), (4, zI v4), (5, zI w0), (6, zI v6), (7, zI v7), (8, zI v8), (9, zI v9), (10, zI v10), (11, zI v11), (12, zI v12), (13, zI v13)] [zI 1, zI v6] h))) :
    zV RL cL_isCellSo 15 (some .boolean) d Post Γ 164 [(0, zR 0), (1, zI v1), (2, zI v2), (3, zI v3), (4, zI v4), (5, zI v5), (6, zI v6), (7, zI v7), (8, zI v8), (9, zI v9), (10, zI v10), (11, zI v11), (12, zI v12), (13, zI v13)] [zI w0] h := by
  refine z_istore (pc := 164) (ls' := [(5, _), (0, _), (1, _), (2, _), (3, _), (4, _), (6, _), (7, _), (8, _), (9, _), (10, _), (11, _), (12, _), (13, _)]) dL_isCellSo_164 (by decide) rfl ?_
  refine z_iload (pc := 166) (n := 6) dL_isCellSo_166 rfl ?_
  refine z_iload (pc := 168) (n := 11) dL_isCellSo_168 rfl ?_
  refine z_if_lt (pc := 170) (tgt := 177) dL_isCellSo_170 (by decide) (fun c => ?_) (fun c => ?_)
  · replace Q := Q.1 c
    refine z_iconst (pc := 177) (a := 0) dL_isCellSo_177 rfl ?_
    exact z_sub (ks := [1, 2, 3, 4, 5, 0, 6, 7, 8, 9, 10, 11, 12, 13]) rfl Q
  · replace Q := Q.2 c
    refine z_iconst (pc := 173) (a := 1) dL_isCellSo_173 rfl ?_
    refine z_goto (pc := 174) (tgt := 178) dL_isCellSo_174 (by decide) ?_
    exact z_sub (ks := [1, 2, 3, 4, 5, 0, 6, 7, 8, 9, 10, 11, 12, 13]) rfl Q
set_option maxHeartbeats 4000000 in
set_option maxRecDepth 100000 in
theorem k_L_isCellSo_178 {d : Nat} {Post : Option zA → zH → Prop} {Γ : zCx} {h : zH} {v1 : Int} {v2 : Int} {v3 : Int} {v4 : Int} {v5 : Int} {v6 : Int} {v7 : Int} {v8 : Int} {v9 : Int} {v10 : Int} {v11 : Int} {v12 : Int} {v13 : Int} {w0 : Int} {w1 : Int}  (hd : 1 ≤ d) (Q :
 ∀ x1 : Int, x1 = (zwr (w1 + w0)) →
 ((v11 < 0 →
  zV RL cL_isCellSo 15 (some .boolean) d Post Γ 196 [(0, zR 0), (1, zI v1), (2, zI v2), (3, zI v3), (4, zI v4), (5, zI v5), (6, zI x1), (7, zI v7), (8, zI v8), (9, zI v9), (10, zI v10), (11, zI v11), (12, zI v12), (13, zI v13)] [zI 0, zI v7] h) ∧
 (¬ v11 < 0 →
  zV RL cL_isCellSo 15 (some .boolean) d Post Γ 196 [(0, zR 0), (1, zI v1), (2, zI v2), (3, zI v3), (4, zI v4), (5, zI v5), (6, zI x1), (7, zI v7), (8, zI v8), (9, zI v9), (10, zI v10), (11, zI v11), (12, zI v12), (13, zI v13)] [zI (zshl 1 v11), zI v7] h))) :
    zV RL cL_isCellSo 15 (some .boolean) d Post Γ 178 [(0, zR 0), (1, zI v1), (2, zI v2), (3, zI v3), (4, zI v4), (5, zI v5), (6, zI v6), (7, zI v7), (8, zI v8), (9, zI v9), (10, zI v10), (11, zI v11), (12, zI v12), (13, zI v13)] [zI w0, zI w1] h := by
  refine z_iadd (pc := 178) dL_isCellSo_178 ?_
  refine z_top (fun x1 ex1 => ?_)
  replace Q := Q x1 ex1
  refine z_istore (pc := 179) (ls' := [(6, _), (0, _), (1, _), (2, _), (3, _), (4, _), (5, _), (7, _), (8, _), (9, _), (10, _), (11, _), (12, _), (13, _)]) dL_isCellSo_179 (by decide) rfl ?_
  refine z_iload (pc := 181) (n := 7) dL_isCellSo_181 rfl ?_
  refine z_iload (pc := 183) (n := 11) dL_isCellSo_183 rfl ?_
  refine z_if_lt (pc := 185) (tgt := 195) dL_isCellSo_185 (by decide) (fun c => ?_) (fun c => ?_)
  · replace Q := Q.1 c
    refine z_iconst (pc := 195) (a := 0) dL_isCellSo_195 rfl ?_
    exact z_sub (ks := [1, 2, 3, 4, 5, 6, 0, 7, 8, 9, 10, 11, 12, 13]) rfl Q
  · replace Q := Q.2 c
    refine z_iconst (pc := 188) (a := 1) dL_isCellSo_188 rfl ?_
    refine z_iload (pc := 189) (n := 11) dL_isCellSo_189 rfl ?_
    refine z_ishl (pc := 191) dL_isCellSo_191 ?_
    refine z_goto (pc := 192) (tgt := 196) dL_isCellSo_192 (by decide) ?_
    exact z_sub (ks := [1, 2, 3, 4, 5, 6, 0, 7, 8, 9, 10, 11, 12, 13]) rfl Q
set_option maxHeartbeats 4000000 in
set_option maxRecDepth 100000 in
theorem k_L_isCellSo_196 {d : Nat} {Post : Option zA → zH → Prop} {Γ : zCx} {h : zH} {v1 : Int} {v2 : Int} {v3 : Int} {v4 : Int} {v5 : Int} {v6 : Int} {v7 : Int} {v8 : Int} {v9 : Int} {v10 : Int} {v11 : Int} {v12 : Int} {v13 : Int} {w0 : Int} {w1 : Int}  (hd : 1 ≤ d) (Q :
 ∀ x1 : Int, x1 = (zor w1 w0) →
 ((v10 < 0 →
  zV RL cL_isCellSo 15 (some .boolean) d Post Γ 277 [(0, zR 0), (1, zI v1), (2, zI v2), (3, zI v3), (4, zI v4), (5, zI v5), (6, zI v6), (7, zI x1), (8, zI v8), (9, zI v9), (10, zI v10), (11, zI v11), (12, zI v12), (13, zI v13)] [] h) ∧
 (¬ v10 < 0 →
  ∃ (d2 : Nat) (P3 : Option zA → zH → Prop), d2 + 1 ≤ d ∧ zSp d2 mX6_part [zR 0, zI v9, zI v1, zI 2] h P3 ∧ ∀ r4 h5, P3 r4 h5 →
  ∃ x8 : Int, r4 = some (zI x8) ∧
  ∃ (d9 : Nat) (P10 : Option zA → zH → Prop), d9 + 1 ≤ d ∧ zSp d9 mX6_part [zR 0, zI v9, zI v1, zI 1] h5 P10 ∧ ∀ r11 h12, P10 r11 h12 →
  ∃ x15 : Int, r11 = some (zI x15) ∧
  ((¬ v10 = (zwr ((zwr (v13 + x8)) - x15)) →
   zV RL cL_isCellSo 15 (some .boolean) d Post Γ 277 [(0, zR 0), (1, zI v1), (2, zI v2), (3, zI v3), (4, zI v4), (5, zI v5), (6, zI v6), (7, zI x1), (8, zI v8), (9, zI v9), (10, zI v10), (11, zI v11), (12, zI v12), (13, zI v13)] [] h12) ∧
  (v10 = (zwr ((zwr (v13 + x8)) - x15)) →
   ∃ (d16 : Nat) (P17 : Option zA → zH → Prop), d16 + 1 ≤ d ∧ zSp d16 mX6_part [zR 0, zI v9, zI v1, zI 3] h12 P17 ∧ ∀ r18 h19, P17 r18 h19 →
   ∃ x22 : Int, r18 = some (zI x22) ∧
   ((x22 = 0 →
    zV RL cL_isCellSo 15 (some .boolean) d Post Γ 245 [(0, zR 0), (1, zI v1), (2, zI v2), (3, zI v3), (4, zI v4), (5, zI v5), (6, zI v6), (7, zI x1), (8, zI v8), (9, zI v9), (10, zI v10), (11, zI v11), (12, zI v12), (13, zI v13)] [] h19) ∧
   (¬ x22 = 0 →
    ((v10 ≤ 0 →
     zV RL cL_isCellSo 15 (some .boolean) d Post Γ 277 [(0, zR 0), (1, zI v1), (2, zI v2), (3, zI v3), (4, zI v4), (5, zI v5), (6, zI v6), (7, zI x1), (8, zI v8), (9, zI v9), (10, zI v10), (11, zI v11), (12, zI v12), (13, zI v13)] [] h19) ∧
    (¬ v10 ≤ 0 →
     zV RL cL_isCellSo 15 (some .boolean) d Post Γ 245 [(0, zR 0), (1, zI v1), (2, zI v2), (3, zI v3), (4, zI v4), (5, zI v5), (6, zI v6), (7, zI x1), (8, zI v8), (9, zI v9), (10, zI v10), (11, zI v11), (12, zI v12), (13, zI v13)] [] h19))))))))) :
    zV RL cL_isCellSo 15 (some .boolean) d Post Γ 196 [(0, zR 0), (1, zI v1), (2, zI v2), (3, zI v3), (4, zI v4), (5, zI v5), (6, zI v6), (7, zI v7), (8, zI v8), (9, zI v9), (10, zI v10), (11, zI v11), (12, zI v12), (13, zI v13)] [zI w0, zI w1] h := by
  refine z_ior (pc := 196) dL_isCellSo_196 ?_
  refine z_top (fun x1 ex1 => ?_)
  replace Q := Q x1 ex1
  refine z_istore (pc := 197) (ls' := [(7, _), (0, _), (1, _), (2, _), (3, _), (4, _), (5, _), (6, _), (8, _), (9, _), (10, _), (11, _), (12, _), (13, _)]) dL_isCellSo_197 (by decide) rfl ?_
  refine z_iload (pc := 199) (n := 10) dL_isCellSo_199 rfl ?_
  refine z_if_lt (pc := 201) (tgt := 277) dL_isCellSo_201 (by decide) (fun c => ?_) (fun c => ?_)
  · replace Q := Q.1 c
    exact z_sub (ks := [1, 2, 3, 4, 5, 6, 7, 0, 8, 9, 10, 11, 12, 13]) rfl Q
  · replace Q := Q.2 c
    refine z_iload (pc := 204) (n := 10) dL_isCellSo_204 rfl ?_
    refine z_iload (pc := 206) (n := 13) dL_isCellSo_206 rfl ?_
    refine z_aload_n (pc := 208) (n := 1) dL_isCellSo_208 rfl rfl ?_
    refine z_iload (pc := 209) (n := 9) dL_isCellSo_209 rfl ?_
    refine z_iload_n (pc := 211) (n := 2) dL_isCellSo_211 rfl rfl ?_
    refine z_iconst (pc := 212) (a := 2) dL_isCellSo_212 rfl ?_
    obtain ⟨d2, P3, e6, s7, Q⟩ := Q
    refine z_callV (pc := 213) (M := mX6_part) (as := [_, _, _]) (st := [_, _]) s7 zo_LentParts rfl wi_X6_part wm_X6_part ⟨by omega, by decide⟩ wl_L_56 dL_isCellSo_213 rfl (Nat.le_of_ble_eq_true rfl) rfl ?_
    intro r4 h5 s7
    obtain ⟨x8, rfl, Q⟩ := Q _ _ s7
    refine z_iadd (pc := 216) dL_isCellSo_216 ?_
    refine z_aload_n (pc := 217) (n := 1) dL_isCellSo_217 rfl rfl ?_
    refine z_iload (pc := 218) (n := 9) dL_isCellSo_218 rfl ?_
    refine z_iload_n (pc := 220) (n := 2) dL_isCellSo_220 rfl rfl ?_
    refine z_iconst (pc := 221) (a := 1) dL_isCellSo_221 rfl ?_
    obtain ⟨d9, P10, e13, s14, Q⟩ := Q
    refine z_callV (pc := 222) (M := mX6_part) (as := [_, _, _]) (st := [_, _]) s14 zo_LentParts rfl wi_X6_part wm_X6_part ⟨by omega, by decide⟩ wl_L_56 dL_isCellSo_222 rfl (Nat.le_of_ble_eq_true rfl) rfl ?_
    intro r11 h12 s14
    obtain ⟨x15, rfl, Q⟩ := Q _ _ s14
    refine z_isub (pc := 225) dL_isCellSo_225 ?_
    refine z_icmp_ne (pc := 226) (tgt := 277) dL_isCellSo_226 (by decide) (fun c => ?_) (fun c => ?_)
    · replace Q := Q.1 c
      exact z_sub (ks := [1, 2, 3, 4, 5, 6, 7, 0, 8, 9, 10, 11, 12, 13]) rfl Q
    · replace Q := Q.2 c
      refine z_aload_n (pc := 229) (n := 1) dL_isCellSo_229 rfl rfl ?_
      refine z_iload (pc := 230) (n := 9) dL_isCellSo_230 rfl ?_
      refine z_iload_n (pc := 232) (n := 2) dL_isCellSo_232 rfl rfl ?_
      refine z_iconst (pc := 233) (a := 3) dL_isCellSo_233 rfl ?_
      obtain ⟨d16, P17, e20, s21, Q⟩ := Q
      refine z_callV (pc := 234) (M := mX6_part) (as := [_, _, _]) (st := []) s21 zo_LentParts rfl wi_X6_part wm_X6_part ⟨by omega, by decide⟩ wl_L_56 dL_isCellSo_234 rfl (Nat.le_of_ble_eq_true rfl) rfl ?_
      intro r18 h19 s21
      obtain ⟨x22, rfl, Q⟩ := Q _ _ s21
      refine z_if_eq (pc := 237) (tgt := 245) dL_isCellSo_237 (by decide) (fun c => ?_) (fun c => ?_)
      · replace Q := Q.1 c
        exact z_sub (ks := [1, 2, 3, 4, 5, 6, 7, 0, 8, 9, 10, 11, 12, 13]) rfl Q
      · replace Q := Q.2 c
        refine z_iload (pc := 240) (n := 10) dL_isCellSo_240 rfl ?_
        refine z_if_le (pc := 242) (tgt := 277) dL_isCellSo_242 (by decide) (fun c => ?_) (fun c => ?_)
        · replace Q := Q.1 c
          exact z_sub (ks := [1, 2, 3, 4, 5, 6, 7, 0, 8, 9, 10, 11, 12, 13]) rfl Q
        · replace Q := Q.2 c
          exact z_sub (ks := [1, 2, 3, 4, 5, 6, 7, 0, 8, 9, 10, 11, 12, 13]) rfl Q
set_option maxHeartbeats 4000000 in
set_option maxRecDepth 100000 in
theorem k_L_isCellSo_245 {d : Nat} {Post : Option zA → zH → Prop} {Γ : zCx} {h : zH} {v1 : Int} {v2 : Int} {v3 : Int} {v4 : Int} {v5 : Int} {v6 : Int} {v7 : Int} {v8 : Int} {v9 : Int} {v10 : Int} {v11 : Int} {v12 : Int} {v13 : Int}  (hd : 1 ≤ d) (Q :
 ∃ (d1 : Nat) (P2 : Option zA → zH → Prop), d1 + 1 ≤ d ∧ zSp d1 mX6_read [zR 0, zI v9, zI v1] h P2 ∧ ∀ r3 h4, P2 r3 h4 →
 ∃ x7 : Int, r3 = some (zI x7) ∧
 ((x7 < 0 →
  zV RL cL_isCellSo 15 (some .boolean) d Post Γ 260 [(0, zR 0), (1, zI v1), (2, zI v2), (3, zI v3), (4, zI v4), (5, zI v5), (6, zI v6), (7, zI v7), (8, zI v8), (9, zI v9), (10, zI v10), (11, zI v11), (12, zI v12), (13, zI v13)] [zI 0] h4) ∧
 (¬ x7 < 0 →
  zV RL cL_isCellSo 15 (some .boolean) d Post Γ 260 [(0, zR 0), (1, zI v1), (2, zI v2), (3, zI v3), (4, zI v4), (5, zI v5), (6, zI v6), (7, zI v7), (8, zI v8), (9, zI v9), (10, zI v10), (11, zI v11), (12, zI v12), (13, zI v13)] [zI 1] h4))) :
    zV RL cL_isCellSo 15 (some .boolean) d Post Γ 245 [(0, zR 0), (1, zI v1), (2, zI v2), (3, zI v3), (4, zI v4), (5, zI v5), (6, zI v6), (7, zI v7), (8, zI v8), (9, zI v9), (10, zI v10), (11, zI v11), (12, zI v12), (13, zI v13)] [] h := by
  refine z_aload_n (pc := 245) (n := 0) dL_isCellSo_245 rfl rfl ?_
  refine z_iload (pc := 246) (n := 9) dL_isCellSo_246 rfl ?_
  refine z_iload_n (pc := 248) (n := 1) dL_isCellSo_248 rfl rfl ?_
  obtain ⟨d1, P2, e5, s6, Q⟩ := Q
  refine z_callV (pc := 249) (M := mX6_read) (as := [_, _]) (st := []) s6 zo_LentParts rfl wi_X6_read wm_X6_read ⟨by omega, by decide⟩ wl_L_59 dL_isCellSo_249 rfl (Nat.le_of_ble_eq_true rfl) rfl ?_
  intro r3 h4 s6
  obtain ⟨x7, rfl, Q⟩ := Q _ _ s6
  refine z_if_lt (pc := 252) (tgt := 259) dL_isCellSo_252 (by decide) (fun c => ?_) (fun c => ?_)
  · replace Q := Q.1 c
    refine z_iconst (pc := 259) (a := 0) dL_isCellSo_259 rfl ?_
    exact z_sub (ks := [0, 1, 2, 3, 4, 5, 6, 7, 8, 9, 10, 11, 12, 13]) rfl Q
  · replace Q := Q.2 c
    refine z_iconst (pc := 255) (a := 1) dL_isCellSo_255 rfl ?_
    refine z_goto (pc := 256) (tgt := 260) dL_isCellSo_256 (by decide) ?_
    exact z_sub (ks := [0, 1, 2, 3, 4, 5, 6, 7, 8, 9, 10, 11, 12, 13]) rfl Q
set_option maxHeartbeats 4000000 in
set_option maxRecDepth 100000 in
theorem k_L_isCellSo_260 {d : Nat} {Post : Option zA → zH → Prop} {Γ : zCx} {h : zH} {v1 : Int} {v2 : Int} {v3 : Int} {v4 : Int} {v5 : Int} {v6 : Int} {v7 : Int} {v8 : Int} {v9 : Int} {v10 : Int} {v11 : Int} {v12 : Int} {v13 : Int} {w0 : Int}  (hd : 1 ≤ d) (Q :
 ((v10 ≤ 0 →
  zV RL cL_isCellSo 15 (some .boolean) d Post Γ 270 [(0, zR 0), (1, zI v1), (2, zI v2), (3, zI v3), (4, zI v4), (5, zI v5), (6, zI v6), (7, zI v7), (8, zI v8), (9, zI v9), (10, zI v10), (11, zI v11), (12, zI v12), (13, zI v13)] [zI 0, zI w0] h) ∧
 (¬ v10 ≤ 0 →
  zV RL cL_isCellSo 15 (some .boolean) d Post Γ 270 [(0, zR 0), (1, zI v1), (2, zI v2), (3, zI v3), (4, zI v4), (5, zI v5), (6, zI v6), (7, zI v7), (8, zI v8), (9, zI v9), (10, zI v10), (11, zI v11), (12, zI v12), (13, zI v13)] [zI 1, zI w0] h))) :
    zV RL cL_isCellSo 15 (some .boolean) d Post Γ 260 [(0, zR 0), (1, zI v1), (2, zI v2), (3, zI v3), (4, zI v4), (5, zI v5), (6, zI v6), (7, zI v7), (8, zI v8), (9, zI v9), (10, zI v10), (11, zI v11), (12, zI v12), (13, zI v13)] [zI w0] h := by
  refine z_iload (pc := 260) (n := 10) dL_isCellSo_260 rfl ?_
  refine z_if_le (pc := 262) (tgt := 269) dL_isCellSo_262 (by decide) (fun c => ?_) (fun c => ?_)
  · replace Q := Q.1 c
    refine z_iconst (pc := 269) (a := 0) dL_isCellSo_269 rfl ?_
    exact z_sub (ks := [0, 1, 2, 3, 4, 5, 6, 7, 8, 9, 10, 11, 12, 13]) rfl Q
  · replace Q := Q.2 c
    refine z_iconst (pc := 265) (a := 1) dL_isCellSo_265 rfl ?_
    refine z_goto (pc := 266) (tgt := 270) dL_isCellSo_266 (by decide) ?_
    exact z_sub (ks := [0, 1, 2, 3, 4, 5, 6, 7, 8, 9, 10, 11, 12, 13]) rfl Q
set_option maxHeartbeats 4000000 in
set_option maxRecDepth 100000 in
theorem k_L_isCellSo_270 {d : Nat} {Post : Option zA → zH → Prop} {Γ : zCx} {h : zH} {v1 : Int} {v2 : Int} {v3 : Int} {v4 : Int} {v5 : Int} {v6 : Int} {v7 : Int} {v8 : Int} {v9 : Int} {v10 : Int} {v11 : Int} {v12 : Int} {v13 : Int} {w0 : Int} {w1 : Int}  (hd : 1 ≤ d) (Q :
 ((¬ w1 = w0 →
  zV RL cL_isCellSo 15 (some .boolean) d Post Γ 277 [(0, zR 0), (1, zI v1), (2, zI v2), (3, zI v3), (4, zI v4), (5, zI v5), (6, zI v6), (7, zI v7), (8, zI v8), (9, zI v9), (10, zI v10), (11, zI v11), (12, zI v12), (13, zI v13)] [] h) ∧
 (w1 = w0 →
  zV RL cL_isCellSo 15 (some .boolean) d Post Γ 278 [(0, zR 0), (1, zI v1), (2, zI v2), (3, zI v3), (4, zI v4), (5, zI v5), (6, zI v6), (7, zI v7), (8, zI v8), (9, zI v9), (10, zI v10), (11, zI v11), (12, zI v12), (13, zI v13)] [zI 1] h))) :
    zV RL cL_isCellSo 15 (some .boolean) d Post Γ 270 [(0, zR 0), (1, zI v1), (2, zI v2), (3, zI v3), (4, zI v4), (5, zI v5), (6, zI v6), (7, zI v7), (8, zI v8), (9, zI v9), (10, zI v10), (11, zI v11), (12, zI v12), (13, zI v13)] [zI w0, zI w1] h := by
  refine z_icmp_ne (pc := 270) (tgt := 277) dL_isCellSo_270 (by decide) (fun c => ?_) (fun c => ?_)
  · replace Q := Q.1 c
    exact z_sub (ks := [0, 1, 2, 3, 4, 5, 6, 7, 8, 9, 10, 11, 12, 13]) rfl Q
  · replace Q := Q.2 c
    refine z_iconst (pc := 273) (a := 1) dL_isCellSo_273 rfl ?_
    refine z_goto (pc := 274) (tgt := 278) dL_isCellSo_274 (by decide) ?_
    exact z_sub (ks := [0, 1, 2, 3, 4, 5, 6, 7, 8, 9, 10, 11, 12, 13]) rfl Q
set_option maxHeartbeats 4000000 in
set_option maxRecDepth 100000 in
theorem k_L_isCellSo_277 {d : Nat} {Post : Option zA → zH → Prop} {Γ : zCx} {h : zH} {v1 : Int} {v2 : Int} {v3 : Int} {v4 : Int} {v5 : Int} {v6 : Int} {v7 : Int} {v8 : Int} {v9 : Int} {v10 : Int} {v11 : Int} {v12 : Int} {v13 : Int}  (hd : 1 ≤ d) (Q :
 zV RL cL_isCellSo 15 (some .boolean) d Post Γ 278 [(0, zR 0), (1, zI v1), (2, zI v2), (3, zI v3), (4, zI v4), (5, zI v5), (6, zI v6), (7, zI v7), (8, zI v8), (9, zI v9), (10, zI v10), (11, zI v11), (12, zI v12), (13, zI v13)] [zI 0] h) :
    zV RL cL_isCellSo 15 (some .boolean) d Post Γ 277 [(0, zR 0), (1, zI v1), (2, zI v2), (3, zI v3), (4, zI v4), (5, zI v5), (6, zI v6), (7, zI v7), (8, zI v8), (9, zI v9), (10, zI v10), (11, zI v11), (12, zI v12), (13, zI v13)] [] h := by
  refine z_iconst (pc := 277) (a := 0) dL_isCellSo_277 rfl ?_
  exact z_sub (ks := [0, 1, 2, 3, 4, 5, 6, 7, 8, 9, 10, 11, 12, 13]) rfl Q
set_option maxHeartbeats 4000000 in
set_option maxRecDepth 100000 in
theorem k_L_isCellSo_278 {d : Nat} {Post : Option zA → zH → Prop} {Γ : zCx} {h : zH} {v1 : Int} {v2 : Int} {v3 : Int} {v4 : Int} {v5 : Int} {v6 : Int} {v7 : Int} {v8 : Int} {v9 : Int} {v10 : Int} {v11 : Int} {v12 : Int} {v13 : Int} {w0 : Int}  (hd : 1 ≤ d) (Q :
 ((w0 = 0 →
  Post (some (zI 0)) h) ∧
 (¬ w0 = 0 →
  ((v12 < 0 →
   Post (some (zI 0)) h) ∧
  (¬ v12 < 0 →
   ((64 < v12 →
    Post (some (zI 0)) h) ∧
   (¬ 64 < v12 →
    ∃ (d1 : Nat) (P2 : Option zA → zH → Prop), d1 + 1 ≤ d ∧ zSp d1 mX6_reason [zR 0, zI v9, zI v1] h P2 ∧ ∀ r3 h4, P2 r3 h4 →
    ∃ x7 : Int, r3 = some (zI x7) ∧
    ((¬ x7 = 0 →
     zV RL cL_isCellSo 15 (some .boolean) d Post Γ 312 [(0, zR 0), (1, zI v1), (2, zI v2), (3, zI v3), (4, zI v4), (5, zI v5), (6, zI v6), (7, zI v7), (8, zI v8), (9, zI v9), (10, zI v10), (11, zI v11), (12, zI v12), (13, zI v13), (14, zI w0)] [zI 0] h4) ∧
    (x7 = 0 →
     zV RL cL_isCellSo 15 (some .boolean) d Post Γ 312 [(0, zR 0), (1, zI v1), (2, zI v2), (3, zI v3), (4, zI v4), (5, zI v5), (6, zI v6), (7, zI v7), (8, zI v8), (9, zI v9), (10, zI v10), (11, zI v11), (12, zI v12), (13, zI v13), (14, zI w0)] [zI 1] h4))))))))) :
    zV RL cL_isCellSo 15 (some .boolean) d Post Γ 278 [(0, zR 0), (1, zI v1), (2, zI v2), (3, zI v3), (4, zI v4), (5, zI v5), (6, zI v6), (7, zI v7), (8, zI v8), (9, zI v9), (10, zI v10), (11, zI v11), (12, zI v12), (13, zI v13)] [zI w0] h := by
  refine z_istore (pc := 278) (ls' := [(14, _), (0, _), (1, _), (2, _), (3, _), (4, _), (5, _), (6, _), (7, _), (8, _), (9, _), (10, _), (11, _), (12, _), (13, _)]) dL_isCellSo_278 (by decide) rfl ?_
  refine z_iload (pc := 280) (n := 0) dL_isCellSo_280 rfl ?_
  refine z_if_eq (pc := 282) (tgt := 347) dL_isCellSo_282 (by decide) (fun c => ?_) (fun c => ?_)
  · replace Q := Q.1 c
    refine z_iconst (pc := 347) (a := 0) dL_isCellSo_347 rfl ?_
    refine z_istore (pc := 348) (ls' := [(14, _), (0, _), (1, _), (2, _), (3, _), (4, _), (5, _), (6, _), (7, _), (8, _), (9, _), (10, _), (11, _), (12, _), (13, _)]) dL_isCellSo_348 (by decide) rfl ?_
    refine z_iload (pc := 350) (n := 0) dL_isCellSo_350 rfl ?_
    refine z_if_ne (pc := 352) (tgt := 357) dL_isCellSo_352 (by decide) (fun c => absurd c (by decide)) (fun c => ?_)
    refine z_iconst (pc := 355) (a := 0) dL_isCellSo_355 rfl ?_
    exact z_zret (pc := 356) rfl (by decide) dL_isCellSo_356 Q
  · replace Q := Q.2 c
    refine z_iload (pc := 285) (n := 13) dL_isCellSo_285 rfl ?_
    refine z_if_lt (pc := 287) (tgt := 347) dL_isCellSo_287 (by decide) (fun c => ?_) (fun c => ?_)
    · replace Q := Q.1 c
      refine z_iconst (pc := 347) (a := 0) dL_isCellSo_347 rfl ?_
      refine z_istore (pc := 348) (ls' := [(14, _), (0, _), (1, _), (2, _), (3, _), (4, _), (5, _), (6, _), (7, _), (8, _), (9, _), (10, _), (11, _), (12, _), (13, _)]) dL_isCellSo_348 (by decide) rfl ?_
      refine z_iload (pc := 350) (n := 0) dL_isCellSo_350 rfl ?_
      refine z_if_ne (pc := 352) (tgt := 357) dL_isCellSo_352 (by decide) (fun c => absurd c (by decide)) (fun c => ?_)
      refine z_iconst (pc := 355) (a := 0) dL_isCellSo_355 rfl ?_
      exact z_zret (pc := 356) rfl (by decide) dL_isCellSo_356 Q
    · replace Q := Q.2 c
      refine z_iload (pc := 290) (n := 13) dL_isCellSo_290 rfl ?_
      refine z_bipush (pc := 292) (a := 64) dL_isCellSo_292 rfl ?_
      refine z_icmp_gt (pc := 294) (tgt := 347) dL_isCellSo_294 (by decide) (fun c => ?_) (fun c => ?_)
      · replace Q := Q.1 c
        refine z_iconst (pc := 347) (a := 0) dL_isCellSo_347 rfl ?_
        refine z_istore (pc := 348) (ls' := [(14, _), (0, _), (1, _), (2, _), (3, _), (4, _), (5, _), (6, _), (7, _), (8, _), (9, _), (10, _), (11, _), (12, _), (13, _)]) dL_isCellSo_348 (by decide) rfl ?_
        refine z_iload (pc := 350) (n := 0) dL_isCellSo_350 rfl ?_
        refine z_if_ne (pc := 352) (tgt := 357) dL_isCellSo_352 (by decide) (fun c => absurd c (by decide)) (fun c => ?_)
        refine z_iconst (pc := 355) (a := 0) dL_isCellSo_355 rfl ?_
        exact z_zret (pc := 356) rfl (by decide) dL_isCellSo_356 Q
      · replace Q := Q.2 c
        refine z_aload_n (pc := 297) (n := 1) dL_isCellSo_297 rfl rfl ?_
        refine z_iload (pc := 298) (n := 10) dL_isCellSo_298 rfl ?_
        refine z_iload_n (pc := 300) (n := 2) dL_isCellSo_300 rfl rfl ?_
        obtain ⟨d1, P2, e5, s6, Q⟩ := Q
        refine z_callV (pc := 301) (M := mX6_reason) (as := [_, _]) (st := []) s6 zo_LentParts rfl wi_X6_reason wm_X6_reason ⟨by omega, by decide⟩ wl_L_62 dL_isCellSo_301 rfl (Nat.le_of_ble_eq_true rfl) rfl ?_
        intro r3 h4 s6
        obtain ⟨x7, rfl, Q⟩ := Q _ _ s6
        refine z_if_ne (pc := 304) (tgt := 311) dL_isCellSo_304 (by decide) (fun c => ?_) (fun c => ?_)
        · replace Q := Q.1 c
          refine z_iconst (pc := 311) (a := 0) dL_isCellSo_311 rfl ?_
          exact z_sub (ks := [1, 2, 3, 4, 5, 6, 7, 8, 9, 10, 11, 12, 13, 14, 0]) rfl Q
        · replace Q := Q.2 c
          refine z_iconst (pc := 307) (a := 1) dL_isCellSo_307 rfl ?_
          refine z_goto (pc := 308) (tgt := 312) dL_isCellSo_308 (by decide) ?_
          exact z_sub (ks := [1, 2, 3, 4, 5, 6, 7, 8, 9, 10, 11, 12, 13, 14, 0]) rfl Q
set_option maxHeartbeats 4000000 in
set_option maxRecDepth 100000 in
theorem k_L_isCellSo_312 {d : Nat} {Post : Option zA → zH → Prop} {Γ : zCx} {h : zH} {v1 : Int} {v2 : Int} {v3 : Int} {v4 : Int} {v5 : Int} {v6 : Int} {v7 : Int} {v8 : Int} {v9 : Int} {v10 : Int} {v11 : Int} {v12 : Int} {v13 : Int} {v14 : Int} {w0 : Int}  (hd : 1 ≤ d) (Q :
 ((¬ v12 = 64 →
  zV RL cL_isCellSo 15 (some .boolean) d Post Γ 324 [(0, zR 0), (1, zI v1), (2, zI v2), (3, zI v3), (4, zI v4), (5, zI v5), (6, zI v6), (7, zI v7), (8, zI v8), (9, zI v9), (10, zI v10), (11, zI v11), (12, zI v12), (13, zI v13), (14, zI v14)] [zI 0, zI w0] h) ∧
 (v12 = 64 →
  zV RL cL_isCellSo 15 (some .boolean) d Post Γ 324 [(0, zR 0), (1, zI v1), (2, zI v2), (3, zI v3), (4, zI v4), (5, zI v5), (6, zI v6), (7, zI v7), (8, zI v8), (9, zI v9), (10, zI v10), (11, zI v11), (12, zI v12), (13, zI v13), (14, zI v14)] [zI 1, zI w0] h))) :
    zV RL cL_isCellSo 15 (some .boolean) d Post Γ 312 [(0, zR 0), (1, zI v1), (2, zI v2), (3, zI v3), (4, zI v4), (5, zI v5), (6, zI v6), (7, zI v7), (8, zI v8), (9, zI v9), (10, zI v10), (11, zI v11), (12, zI v12), (13, zI v13), (14, zI v14)] [zI w0] h := by
  refine z_iload (pc := 312) (n := 12) dL_isCellSo_312 rfl ?_
  refine z_bipush (pc := 314) (a := 64) dL_isCellSo_314 rfl ?_
  refine z_icmp_ne (pc := 316) (tgt := 323) dL_isCellSo_316 (by decide) (fun c => ?_) (fun c => ?_)
  · replace Q := Q.1 c
    refine z_iconst (pc := 323) (a := 0) dL_isCellSo_323 rfl ?_
    exact z_sub (ks := [0, 1, 2, 3, 4, 5, 6, 7, 8, 9, 10, 11, 12, 13, 14]) rfl Q
  · replace Q := Q.2 c
    refine z_iconst (pc := 319) (a := 1) dL_isCellSo_319 rfl ?_
    refine z_goto (pc := 320) (tgt := 324) dL_isCellSo_320 (by decide) ?_
    exact z_sub (ks := [0, 1, 2, 3, 4, 5, 6, 7, 8, 9, 10, 11, 12, 13, 14]) rfl Q
set_option maxHeartbeats 4000000 in
set_option maxRecDepth 100000 in
theorem k_L_isCellSo_324 {d : Nat} {Post : Option zA → zH → Prop} {Γ : zCx} {h : zH} {v1 : Int} {v2 : Int} {v3 : Int} {v4 : Int} {v5 : Int} {v6 : Int} {v7 : Int} {v8 : Int} {v9 : Int} {v10 : Int} {v11 : Int} {v12 : Int} {v13 : Int} {v14 : Int} {w0 : Int} {w1 : Int}  (hd : 1 ≤ d) (Q :
 ((¬ w1 = w0 →
  Post (some (zI 0)) h) ∧
 (w1 = w0 →
  ((¬ v11 = 0 →
   ∀ x1 : Int, x1 = zwr (v9 + 1) →
   zV RL cL_isCellSo 15 (some .boolean) d Post Γ 63 [(0, zR 0), (1, zI v1), (2, zI v2), (3, zI v3), (4, zI v4), (5, zI v5), (6, zI v6), (7, zI v7), (8, zI v8), (9, zI x1)] [] h) ∧
  (v11 = 0 →
   ∃ (d2 : Nat) (P3 : Option zA → zH → Prop), d2 + 1 ≤ d ∧ zSp d2 mX6_cell [zR 0, zI v1, zI 5] h P3 ∧ ∀ r4 h5, P3 r4 h5 →
   ∃ x8 : Int, r4 = some (zI x8) ∧
   ((¬ x8 = v9 →
    Post (some (zI 0)) h5) ∧
   (x8 = v9 →
    ∀ x9 : Int, x9 = zwr (v9 + 1) →
    zV RL cL_isCellSo 15 (some .boolean) d Post Γ 63 [(0, zR 0), (1, zI v1), (2, zI v2), (3, zI v3), (4, zI v4), (5, zI v5), (6, zI v6), (7, zI v7), (8, zI v8), (9, zI x9)] [] h5))))))) :
    zV RL cL_isCellSo 15 (some .boolean) d Post Γ 324 [(0, zR 0), (1, zI v1), (2, zI v2), (3, zI v3), (4, zI v4), (5, zI v5), (6, zI v6), (7, zI v7), (8, zI v8), (9, zI v9), (10, zI v10), (11, zI v11), (12, zI v12), (13, zI v13), (14, zI v14)] [zI w0, zI w1] h := by
  refine z_icmp_ne (pc := 324) (tgt := 347) dL_isCellSo_324 (by decide) (fun c => ?_) (fun c => ?_)
  · replace Q := Q.1 c
    refine z_iconst (pc := 347) (a := 0) dL_isCellSo_347 rfl ?_
    refine z_istore (pc := 348) (ls' := [(14, _), (0, _), (1, _), (2, _), (3, _), (4, _), (5, _), (6, _), (7, _), (8, _), (9, _), (10, _), (11, _), (12, _), (13, _)]) dL_isCellSo_348 (by decide) rfl ?_
    refine z_iload (pc := 350) (n := 0) dL_isCellSo_350 rfl ?_
    refine z_if_ne (pc := 352) (tgt := 357) dL_isCellSo_352 (by decide) (fun c => absurd c (by decide)) (fun c => ?_)
    refine z_iconst (pc := 355) (a := 0) dL_isCellSo_355 rfl ?_
    exact z_zret (pc := 356) rfl (by decide) dL_isCellSo_356 Q
  · replace Q := Q.2 c
    refine z_iload (pc := 327) (n := 11) dL_isCellSo_327 rfl ?_
    refine z_if_ne (pc := 329) (tgt := 343) dL_isCellSo_329 (by decide) (fun c => ?_) (fun c => ?_)
    · replace Q := Q.1 c
      refine z_iconst (pc := 343) (a := 1) dL_isCellSo_343 rfl ?_
      refine z_goto (pc := 344) (tgt := 348) dL_isCellSo_344 (by decide) ?_
      refine z_istore (pc := 348) (ls' := [(14, _), (0, _), (1, _), (2, _), (3, _), (4, _), (5, _), (6, _), (7, _), (8, _), (9, _), (10, _), (11, _), (12, _), (13, _)]) dL_isCellSo_348 (by decide) rfl ?_
      refine z_iload (pc := 350) (n := 0) dL_isCellSo_350 rfl ?_
      refine z_if_ne (pc := 352) (tgt := 357) dL_isCellSo_352 (by decide) (fun c => ?_) (fun c => absurd c (by decide))
      refine z_iincg (pc := 357) (n := 10) (lf := fun y => [(9, zI y), (14, _), (0, _), (1, _), (2, _), (3, _), (4, _), (5, _), (6, _), (7, _), (8, _), (10, _), (11, _), (12, _), (13, _)]) dL_isCellSo_357 rfl (by decide) (fun _ => rfl) (fun x1 ex1 => ?_)
      replace Q := Q x1 ex1
      refine z_goto (pc := 360) (tgt := 63) dL_isCellSo_360 (by decide) ?_
      exact z_sub (ks := [2, 3, 4, 5, 6, 7, 8, 9, 10, 0]) rfl Q
    · replace Q := Q.2 c
      refine z_aload_n (pc := 332) (n := 0) dL_isCellSo_332 rfl rfl ?_
      refine z_iload_n (pc := 333) (n := 1) dL_isCellSo_333 rfl rfl ?_
      refine z_iconst (pc := 334) (a := 5) dL_isCellSo_334 rfl ?_
      obtain ⟨d2, P3, e6, s7, Q⟩ := Q
      refine z_callV (pc := 335) (M := mX6_cell) (as := [_, _]) (st := []) s7 zo_LentParts rfl wi_X6_cell wm_X6_cell ⟨by omega, by decide⟩ wl_L_50 dL_isCellSo_335 rfl (Nat.le_of_ble_eq_true rfl) rfl ?_
      intro r4 h5 s7
      obtain ⟨x8, rfl, Q⟩ := Q _ _ s7
      refine z_iload (pc := 338) (n := 9) dL_isCellSo_338 rfl ?_
      refine z_icmp_ne (pc := 340) (tgt := 347) dL_isCellSo_340 (by decide) (fun c => ?_) (fun c => ?_)
      · replace Q := Q.1 c
        refine z_iconst (pc := 347) (a := 0) dL_isCellSo_347 rfl ?_
        refine z_istore (pc := 348) (ls' := [(14, _), (0, _), (1, _), (2, _), (3, _), (4, _), (5, _), (6, _), (7, _), (8, _), (9, _), (10, _), (11, _), (12, _), (13, _)]) dL_isCellSo_348 (by decide) rfl ?_
        refine z_iload (pc := 350) (n := 0) dL_isCellSo_350 rfl ?_
        refine z_if_ne (pc := 352) (tgt := 357) dL_isCellSo_352 (by decide) (fun c => absurd c (by decide)) (fun c => ?_)
        refine z_iconst (pc := 355) (a := 0) dL_isCellSo_355 rfl ?_
        exact z_zret (pc := 356) rfl (by decide) dL_isCellSo_356 Q
      · replace Q := Q.2 c
        refine z_iconst (pc := 343) (a := 1) dL_isCellSo_343 rfl ?_
        refine z_goto (pc := 344) (tgt := 348) dL_isCellSo_344 (by decide) ?_
        refine z_istore (pc := 348) (ls' := [(14, _), (0, _), (1, _), (2, _), (3, _), (4, _), (5, _), (6, _), (7, _), (8, _), (9, _), (10, _), (11, _), (12, _), (13, _)]) dL_isCellSo_348 (by decide) rfl ?_
        refine z_iload (pc := 350) (n := 0) dL_isCellSo_350 rfl ?_
        refine z_if_ne (pc := 352) (tgt := 357) dL_isCellSo_352 (by decide) (fun c => ?_) (fun c => absurd c (by decide))
        refine z_iincg (pc := 357) (n := 10) (lf := fun y => [(9, zI y), (14, _), (0, _), (1, _), (2, _), (3, _), (4, _), (5, _), (6, _), (7, _), (8, _), (10, _), (11, _), (12, _), (13, _)]) dL_isCellSo_357 rfl (by decide) (fun _ => rfl) (fun x9 ex9 => ?_)
        replace Q := Q x9 ex9
        refine z_goto (pc := 360) (tgt := 63) dL_isCellSo_360 (by decide) ?_
        exact z_sub (ks := [2, 3, 4, 5, 6, 7, 8, 9, 10, 0]) rfl Q
set_option maxHeartbeats 4000000 in
set_option maxRecDepth 100000 in
theorem k_L_isCellSo_441 {d : Nat} {Post : Option zA → zH → Prop} {Γ : zCx} {h : zH} {v1 : Int} {v2 : Int} {v3 : Int} {v4 : Int} {v5 : Int} {v6 : Int} {v7 : Int} {v8 : Int} {v9 : Int}  (hd : 1 ≤ d) (Q :
 zV RL cL_isCellSo 15 (some .boolean) d Post Γ 442 [(0, zR 0), (1, zI v1), (2, zI v2), (3, zI v3), (4, zI v4), (5, zI v5), (6, zI v6), (7, zI v7), (8, zI v8), (9, zI v9)] [zI 0] h) :
    zV RL cL_isCellSo 15 (some .boolean) d Post Γ 441 [(0, zR 0), (1, zI v1), (2, zI v2), (3, zI v3), (4, zI v4), (5, zI v5), (6, zI v6), (7, zI v7), (8, zI v8), (9, zI v9)] [] h := by
  refine z_iconst (pc := 441) (a := 0) dL_isCellSo_441 rfl ?_
  exact z_sub (ks := [0, 1, 2, 3, 4, 5, 6, 7, 8, 9]) rfl Q
set_option maxHeartbeats 4000000 in
set_option maxRecDepth 100000 in
theorem k_L_isCellSo_442 {d : Nat} {Post : Option zA → zH → Prop} {Γ : zCx} {h : zH} {v1 : Int} {v2 : Int} {v3 : Int} {v4 : Int} {v5 : Int} {v6 : Int} {v7 : Int} {v8 : Int} {v9 : Int} {w0 : Int}  (hd : 1 ≤ d) (Q :
 ((w0 = 0 →
  zV RL cL_isCellSo 15 (some .boolean) d Post Γ 488 [(0, zR 0), (1, zI v1), (2, zI v2), (3, zI v3), (4, zI v4), (5, zI v5), (6, zI v6), (7, zI v7), (8, zI v8), (9, zI w0)] [] h) ∧
 (¬ w0 = 0 →
  ∃ (d1 : Nat) (P2 : Option zA → zH → Prop), d1 + 1 ≤ d ∧ zSp d1 mX6_chain [zR 0, zI v1] h P2 ∧ ∀ r3 h4, P2 r3 h4 →
  ∃ x7 : Int, r3 = some (zI x7) ∧
  ((5 < x7 →
   zV RL cL_isCellSo 15 (some .boolean) d Post Γ 488 [(0, zR 0), (1, zI v1), (2, zI v2), (3, zI v3), (4, zI v4), (5, zI v5), (6, zI v6), (7, zI v7), (8, zI v8), (9, zI w0)] [] h4) ∧
  (¬ 5 < x7 →
   ((v8 ≤ 0 →
    zV RL cL_isCellSo 15 (some .boolean) d Post Γ 468 [(0, zR 0), (1, zI v1), (2, zI v2), (3, zI v3), (4, zI v4), (5, zI v5), (6, zI v6), (7, zI v7), (8, zI v8), (9, zI w0)] [zI 0] h4) ∧
   (¬ v8 ≤ 0 →
    zV RL cL_isCellSo 15 (some .boolean) d Post Γ 468 [(0, zR 0), (1, zI v1), (2, zI v2), (3, zI v3), (4, zI v4), (5, zI v5), (6, zI v6), (7, zI v7), (8, zI v8), (9, zI w0)] [zI 1] h4))))))) :
    zV RL cL_isCellSo 15 (some .boolean) d Post Γ 442 [(0, zR 0), (1, zI v1), (2, zI v2), (3, zI v3), (4, zI v4), (5, zI v5), (6, zI v6), (7, zI v7), (8, zI v8), (9, zI v9)] [zI w0] h := by
  refine z_istore (pc := 442) (ls' := [(9, _), (0, _), (1, _), (2, _), (3, _), (4, _), (5, _), (6, _), (7, _), (8, _)]) dL_isCellSo_442 (by decide) rfl ?_
  refine z_iload (pc := 444) (n := 0) dL_isCellSo_444 rfl ?_
  refine z_if_eq (pc := 446) (tgt := 488) dL_isCellSo_446 (by decide) (fun c => ?_) (fun c => ?_)
  · replace Q := Q.1 c
    exact z_sub (ks := [1, 2, 3, 4, 5, 6, 7, 8, 9, 0]) rfl Q
  · replace Q := Q.2 c
    refine z_aload_n (pc := 449) (n := 1) dL_isCellSo_449 rfl rfl ?_
    refine z_iload_n (pc := 450) (n := 2) dL_isCellSo_450 rfl rfl ?_
    obtain ⟨d1, P2, e5, s6, Q⟩ := Q
    refine z_callV (pc := 451) (M := mX6_chain) (as := [_]) (st := []) s6 zo_LentParts rfl wi_X6_chain wm_X6_chain ⟨by omega, by decide⟩ wl_L_65 dL_isCellSo_451 rfl (Nat.le_of_ble_eq_true rfl) rfl ?_
    intro r3 h4 s6
    obtain ⟨x7, rfl, Q⟩ := Q _ _ s6
    refine z_iconst (pc := 454) (a := 5) dL_isCellSo_454 rfl ?_
    refine z_icmp_gt (pc := 455) (tgt := 488) dL_isCellSo_455 (by decide) (fun c => ?_) (fun c => ?_)
    · replace Q := Q.1 c
      exact z_sub (ks := [1, 2, 3, 4, 5, 6, 7, 8, 9, 0]) rfl Q
    · replace Q := Q.2 c
      refine z_iload (pc := 458) (n := 9) dL_isCellSo_458 rfl ?_
      refine z_if_le (pc := 460) (tgt := 467) dL_isCellSo_460 (by decide) (fun c => ?_) (fun c => ?_)
      · replace Q := Q.1 c
        refine z_iconst (pc := 467) (a := 0) dL_isCellSo_467 rfl ?_
        exact z_sub (ks := [1, 2, 3, 4, 5, 6, 7, 8, 9, 0]) rfl Q
      · replace Q := Q.2 c
        refine z_iconst (pc := 463) (a := 1) dL_isCellSo_463 rfl ?_
        refine z_goto (pc := 464) (tgt := 468) dL_isCellSo_464 (by decide) ?_
        exact z_sub (ks := [1, 2, 3, 4, 5, 6, 7, 8, 9, 0]) rfl Q
set_option maxHeartbeats 4000000 in
set_option maxRecDepth 100000 in
theorem k_L_isCellSo_468 {d : Nat} {Post : Option zA → zH → Prop} {Γ : zCx} {h : zH} {v1 : Int} {v2 : Int} {v3 : Int} {v4 : Int} {v5 : Int} {v6 : Int} {v7 : Int} {v8 : Int} {v9 : Int} {w0 : Int}  (hd : 1 ≤ d) (Q :
 ∃ (d1 : Nat) (P2 : Option zA → zH → Prop), d1 + 1 ≤ d ∧ zSp d1 mX6_chain [zR 0, zI v1] h P2 ∧ ∀ r3 h4, P2 r3 h4 →
 ∃ x7 : Int, r3 = some (zI x7) ∧
 ((x7 ≤ 0 →
  zV RL cL_isCellSo 15 (some .boolean) d Post Γ 481 [(0, zR 0), (1, zI v1), (2, zI v2), (3, zI v3), (4, zI v4), (5, zI v5), (6, zI v6), (7, zI v7), (8, zI v8), (9, zI v9)] [zI 0, zI w0] h4) ∧
 (¬ x7 ≤ 0 →
  zV RL cL_isCellSo 15 (some .boolean) d Post Γ 481 [(0, zR 0), (1, zI v1), (2, zI v2), (3, zI v3), (4, zI v4), (5, zI v5), (6, zI v6), (7, zI v7), (8, zI v8), (9, zI v9)] [zI 1, zI w0] h4))) :
    zV RL cL_isCellSo 15 (some .boolean) d Post Γ 468 [(0, zR 0), (1, zI v1), (2, zI v2), (3, zI v3), (4, zI v4), (5, zI v5), (6, zI v6), (7, zI v7), (8, zI v8), (9, zI v9)] [zI w0] h := by
  refine z_aload_n (pc := 468) (n := 0) dL_isCellSo_468 rfl rfl ?_
  refine z_iload_n (pc := 469) (n := 1) dL_isCellSo_469 rfl rfl ?_
  obtain ⟨d1, P2, e5, s6, Q⟩ := Q
  refine z_callV (pc := 470) (M := mX6_chain) (as := [_]) (st := [_]) s6 zo_LentParts rfl wi_X6_chain wm_X6_chain ⟨by omega, by decide⟩ wl_L_65 dL_isCellSo_470 rfl (Nat.le_of_ble_eq_true rfl) rfl ?_
  intro r3 h4 s6
  obtain ⟨x7, rfl, Q⟩ := Q _ _ s6
  refine z_if_le (pc := 473) (tgt := 480) dL_isCellSo_473 (by decide) (fun c => ?_) (fun c => ?_)
  · replace Q := Q.1 c
    refine z_iconst (pc := 480) (a := 0) dL_isCellSo_480 rfl ?_
    exact z_sub (ks := [0, 1, 2, 3, 4, 5, 6, 7, 8, 9]) rfl Q
  · replace Q := Q.2 c
    refine z_iconst (pc := 476) (a := 1) dL_isCellSo_476 rfl ?_
    refine z_goto (pc := 477) (tgt := 481) dL_isCellSo_477 (by decide) ?_
    exact z_sub (ks := [0, 1, 2, 3, 4, 5, 6, 7, 8, 9]) rfl Q
set_option maxHeartbeats 4000000 in
set_option maxRecDepth 100000 in
theorem k_L_isCellSo_481 {d : Nat} {Post : Option zA → zH → Prop} {Γ : zCx} {h : zH} {v1 : Int} {v2 : Int} {v3 : Int} {v4 : Int} {v5 : Int} {v6 : Int} {v7 : Int} {v8 : Int} {v9 : Int} {w0 : Int} {w1 : Int}  (hd : 1 ≤ d) (Q :
 ((¬ w1 = w0 →
  zV RL cL_isCellSo 15 (some .boolean) d Post Γ 488 [(0, zR 0), (1, zI v1), (2, zI v2), (3, zI v3), (4, zI v4), (5, zI v5), (6, zI v6), (7, zI v7), (8, zI v8), (9, zI v9)] [] h) ∧
 (w1 = w0 →
  zV RL cL_isCellSo 15 (some .boolean) d Post Γ 489 [(0, zR 0), (1, zI v1), (2, zI v2), (3, zI v3), (4, zI v4), (5, zI v5), (6, zI v6), (7, zI v7), (8, zI v8), (9, zI v9)] [zI 1] h))) :
    zV RL cL_isCellSo 15 (some .boolean) d Post Γ 481 [(0, zR 0), (1, zI v1), (2, zI v2), (3, zI v3), (4, zI v4), (5, zI v5), (6, zI v6), (7, zI v7), (8, zI v8), (9, zI v9)] [zI w0, zI w1] h := by
  refine z_icmp_ne (pc := 481) (tgt := 488) dL_isCellSo_481 (by decide) (fun c => ?_) (fun c => ?_)
  · replace Q := Q.1 c
    exact z_sub (ks := [0, 1, 2, 3, 4, 5, 6, 7, 8, 9]) rfl Q
  · replace Q := Q.2 c
    refine z_iconst (pc := 484) (a := 1) dL_isCellSo_484 rfl ?_
    refine z_goto (pc := 485) (tgt := 489) dL_isCellSo_485 (by decide) ?_
    exact z_sub (ks := [0, 1, 2, 3, 4, 5, 6, 7, 8, 9]) rfl Q
set_option maxHeartbeats 4000000 in
set_option maxRecDepth 100000 in
theorem k_L_isCellSo_488 {d : Nat} {Post : Option zA → zH → Prop} {Γ : zCx} {h : zH} {v1 : Int} {v2 : Int} {v3 : Int} {v4 : Int} {v5 : Int} {v6 : Int} {v7 : Int} {v8 : Int} {v9 : Int}  (hd : 1 ≤ d) (Q :
 zV RL cL_isCellSo 15 (some .boolean) d Post Γ 489 [(0, zR 0), (1, zI v1), (2, zI v2), (3, zI v3), (4, zI v4), (5, zI v5), (6, zI v6), (7, zI v7), (8, zI v8), (9, zI v9)] [zI 0] h) :
    zV RL cL_isCellSo 15 (some .boolean) d Post Γ 488 [(0, zR 0), (1, zI v1), (2, zI v2), (3, zI v3), (4, zI v4), (5, zI v5), (6, zI v6), (7, zI v7), (8, zI v8), (9, zI v9)] [] h := by
  refine z_iconst (pc := 488) (a := 0) dL_isCellSo_488 rfl ?_
  exact z_sub (ks := [0, 1, 2, 3, 4, 5, 6, 7, 8, 9]) rfl Q
set_option maxHeartbeats 4000000 in
set_option maxRecDepth 100000 in
theorem k_L_isCellSo_489 {d : Nat} {Post : Option zA → zH → Prop} {Γ : zCx} {h : zH} {v1 : Int} {v2 : Int} {v3 : Int} {v4 : Int} {v5 : Int} {v6 : Int} {v7 : Int} {v8 : Int} {v9 : Int} {w0 : Int}  (hd : 1 ≤ d) (Q :
 ((w0 = 0 →
  Post (some (zI 0)) h) ∧
 (¬ w0 = 0 →
  ((0 < v8 →
   Post (some (zI 1)) h) ∧
  (¬ 0 < v8 →
   ∃ (d1 : Nat) (P2 : Option zA → zH → Prop), d1 + 1 ≤ d ∧ zSp d1 mX6_cell [zR 0, zI v1, zI 2] h P2 ∧ ∀ r3 h4, P2 r3 h4 →
   ∃ x7 : Int, r3 = some (zI x7) ∧
   ∃ (d8 : Nat) (P9 : Option zA → zH → Prop), d8 + 1 ≤ d ∧ zSp d8 mX6_part [zR 0, zI x7, zI v1, zI 0] h4 P9 ∧ ∀ r10 h11, P9 r10 h11 →
   ∃ x14 : Int, r10 = some (zI x14) ∧
   ((¬ x14 = 64 →
    Post (some (zI 0)) h11) ∧
   (x14 = 64 →
    Post (some (zI 1)) h11))))))) :
    zV RL cL_isCellSo 15 (some .boolean) d Post Γ 489 [(0, zR 0), (1, zI v1), (2, zI v2), (3, zI v3), (4, zI v4), (5, zI v5), (6, zI v6), (7, zI v7), (8, zI v8), (9, zI v9)] [zI w0] h := by
  refine z_istore (pc := 489) (ls' := [(9, _), (0, _), (1, _), (2, _), (3, _), (4, _), (5, _), (6, _), (7, _), (8, _)]) dL_isCellSo_489 (by decide) rfl ?_
  refine z_iload (pc := 491) (n := 0) dL_isCellSo_491 rfl ?_
  refine z_if_eq (pc := 493) (tgt := 522) dL_isCellSo_493 (by decide) (fun c => ?_) (fun c => ?_)
  · replace Q := Q.1 c
    refine z_iconst (pc := 522) (a := 0) dL_isCellSo_522 rfl ?_
    exact z_zret (pc := 523) rfl (by decide) dL_isCellSo_523 Q
  · replace Q := Q.2 c
    refine z_iload (pc := 496) (n := 9) dL_isCellSo_496 rfl ?_
    refine z_if_gt (pc := 498) (tgt := 518) dL_isCellSo_498 (by decide) (fun c => ?_) (fun c => ?_)
    · replace Q := Q.1 c
      refine z_iconst (pc := 518) (a := 1) dL_isCellSo_518 rfl ?_
      refine z_goto (pc := 519) (tgt := 523) dL_isCellSo_519 (by decide) ?_
      exact z_zret (pc := 523) rfl (by decide) dL_isCellSo_523 Q
    · replace Q := Q.2 c
      refine z_aload_n (pc := 501) (n := 1) dL_isCellSo_501 rfl rfl ?_
      refine z_aload_n (pc := 502) (n := 1) dL_isCellSo_502 rfl rfl ?_
      refine z_iload_n (pc := 503) (n := 2) dL_isCellSo_503 rfl rfl ?_
      refine z_iconst (pc := 504) (a := 2) dL_isCellSo_504 rfl ?_
      obtain ⟨d1, P2, e5, s6, Q⟩ := Q
      refine z_callV (pc := 505) (M := mX6_cell) (as := [_, _]) (st := [_]) s6 zo_LentParts rfl wi_X6_cell wm_X6_cell ⟨by omega, by decide⟩ wl_L_50 dL_isCellSo_505 rfl (Nat.le_of_ble_eq_true rfl) rfl ?_
      intro r3 h4 s6
      obtain ⟨x7, rfl, Q⟩ := Q _ _ s6
      refine z_iload_n (pc := 508) (n := 2) dL_isCellSo_508 rfl rfl ?_
      refine z_iconst (pc := 509) (a := 0) dL_isCellSo_509 rfl ?_
      obtain ⟨d8, P9, e12, s13, Q⟩ := Q
      refine z_callV (pc := 510) (M := mX6_part) (as := [_, _, _]) (st := []) s13 zo_LentParts rfl wi_X6_part wm_X6_part ⟨by omega, by decide⟩ wl_L_56 dL_isCellSo_510 rfl (Nat.le_of_ble_eq_true rfl) rfl ?_
      intro r10 h11 s13
      obtain ⟨x14, rfl, Q⟩ := Q _ _ s13
      refine z_bipush (pc := 513) (a := 64) dL_isCellSo_513 rfl ?_
      refine z_icmp_ne (pc := 515) (tgt := 522) dL_isCellSo_515 (by decide) (fun c => ?_) (fun c => ?_)
      · replace Q := Q.1 c
        refine z_iconst (pc := 522) (a := 0) dL_isCellSo_522 rfl ?_
        exact z_zret (pc := 523) rfl (by decide) dL_isCellSo_523 Q
      · replace Q := Q.2 c
        refine z_iconst (pc := 518) (a := 1) dL_isCellSo_518 rfl ?_
        refine z_goto (pc := 519) (tgt := 523) dL_isCellSo_519 (by decide) ?_
        exact z_zret (pc := 523) rfl (by decide) dL_isCellSo_523 Q
set_option maxHeartbeats 4000000 in
set_option maxRecDepth 100000 in
theorem k_L_isGatherSo_0 {d : Nat} {Post : Option zA → zH → Prop} {Γ : zCx} {h : zH} {a2 : Int} {a3 : Int}  (hd : 1 ≤ d) (Q :
 ∃ (d1 : Nat) (P2 : Option zA → zH → Prop), d1 + 1 ≤ d ∧ zSp d1 mX6_part [zR 0, zI a2, zI a3, zI 5] h P2 ∧ ∀ r3 h4, P2 r3 h4 →
 ∃ x7 : Int, r3 = some (zI x7) ∧
 ∃ (d8 : Nat) (P9 : Option zA → zH → Prop), d8 + 1 ≤ d ∧ zSp d8 mX6_part [zR 0, zI a2, zI a3, zI 0] h4 P9 ∧ ∀ r10 h11, P9 r10 h11 →
 ∃ x14 : Int, r10 = some (zI x14) ∧
 ∃ (d15 : Nat) (P16 : Option zA → zH → Prop), d15 + 1 ≤ d ∧ zSp d15 mX6_cell [zR 0, zI a3, zI 0] h11 P16 ∧ ∀ r17 h18, P16 r17 h18 →
 ∃ x21 : Int, r17 = some (zI x21) ∧
 ∃ (d22 : Nat) (P23 : Option zA → zH → Prop), d22 + 1 ≤ d ∧ zSp d22 mX6_count [zR 0, zI 0] h18 P23 ∧ ∀ r24 h25, P23 r24 h25 →
 ∃ x28 : Int, r24 = some (zI x28) ∧
 ∃ (d29 : Nat) (P30 : Option zA → zH → Prop), d29 + 1 ≤ d ∧ zSp d29 mX6_count [zR 0, zI 5] h25 P30 ∧ ∀ r31 h32, P30 r31 h32 →
 ∃ x35 : Int, r31 = some (zI x35) ∧
 ∃ (d36 : Nat) (P37 : Option zA → zH → Prop), d36 + 1 ≤ d ∧ zSp d36 mX6_gather [zR 0, zI a2, zI a3] h32 P37 ∧ ∀ r38 h39, P37 r38 h39 →
 ∃ x42 : Int, r38 = some (zI x42) ∧
 ((¬ x42 = (-5) →
  ((¬ x42 = x7 →
   zV RL cL_isGatherSo 11 (some .boolean) d Post Γ 137 [(0, zR 0), (1, zI a2), (2, zI a3), (3, zI x7), (4, zI x14), (5, zI x21), (6, zI x28), (7, zI x35), (8, zI x42)] [] h39) ∧
  (x42 = x7 →
   ∃ (d43 : Nat) (P44 : Option zA → zH → Prop), d43 + 1 ≤ d ∧ zSp d43 mX6_part [zR 0, zI a2, zI a3, zI 0] h39 P44 ∧ ∀ r45 h46, P44 r45 h46 →
   ∃ x49 : Int, r45 = some (zI x49) ∧
   ((¬ x49 = x7 →
    zV RL cL_isGatherSo 11 (some .boolean) d Post Γ 137 [(0, zR 0), (1, zI a2), (2, zI a3), (3, zI x7), (4, zI x14), (5, zI x21), (6, zI x28), (7, zI x35), (8, zI x42)] [] h46) ∧
   (x49 = x7 →
    ∃ (d50 : Nat) (P51 : Option zA → zH → Prop), d50 + 1 ≤ d ∧ zSp d50 mX6_cell [zR 0, zI a3, zI 0] h46 P51 ∧ ∀ r52 h53, P51 r52 h53 →
    ∃ x56 : Int, r52 = some (zI x56) ∧
    ((¬ x56 = x21 →
     zV RL cL_isGatherSo 11 (some .boolean) d Post Γ 137 [(0, zR 0), (1, zI a2), (2, zI a3), (3, zI x7), (4, zI x14), (5, zI x21), (6, zI x28), (7, zI x35), (8, zI x42)] [] h53) ∧
    (x56 = x21 →
     ∃ (d57 : Nat) (P58 : Option zA → zH → Prop), d57 + 1 ≤ d ∧ zSp d57 mX6_count [zR 0, zI 5] h53 P58 ∧ ∀ r59 h60, P58 r59 h60 →
     ∃ x63 : Int, r59 = some (zI x63) ∧
     ∃ (d64 : Nat) (P65 : Option zA → zH → Prop), d64 + 1 ≤ d ∧ zSp d64 mX6_count [zR 0, zI 0] h60 P65 ∧ ∀ r66 h67, P65 r66 h67 →
     ∃ x70 : Int, r66 = some (zI x70) ∧
     ((¬ (zwr (x63 - x35)) = (zwr (x28 - x70)) →
      zV RL cL_isGatherSo 11 (some .boolean) d Post Γ 137 [(0, zR 0), (1, zI a2), (2, zI a3), (3, zI x7), (4, zI x14), (5, zI x21), (6, zI x28), (7, zI x35), (8, zI x42)] [] h67) ∧
     ((zwr (x63 - x35)) = (zwr (x28 - x70)) →
      ∃ (d71 : Nat) (P72 : Option zA → zH → Prop), d71 + 1 ≤ d ∧ zSp d71 mX6_count [zR 0, zI 0] h67 P72 ∧ ∀ r73 h74, P72 r73 h74 →
      ∃ x77 : Int, r73 = some (zI x77) ∧
      ((x28 ≤ x77 →
       zV RL cL_isGatherSo 11 (some .boolean) d Post Γ 137 [(0, zR 0), (1, zI a2), (2, zI a3), (3, zI x7), (4, zI x14), (5, zI x21), (6, zI x28), (7, zI x35), (8, zI x42)] [] h74) ∧
      (¬ x28 ≤ x77 →
       zV RL cL_isGatherSo 11 (some .boolean) d Post Γ 138 [(0, zR 0), (1, zI a2), (2, zI a3), (3, zI x7), (4, zI x14), (5, zI x21), (6, zI x28), (7, zI x35), (8, zI x42)] [zI 1] h74))))))))))) ∧
 (x42 = (-5) →
  ((¬ x7 = x14 →
   Post (some (zI 0)) h39) ∧
  (x7 = x14 →
   ∃ (d78 : Nat) (P79 : Option zA → zH → Prop), d78 + 1 ≤ d ∧ zSp d78 mX6_count [zR 0, zI 0] h39 P79 ∧ ∀ r80 h81, P79 r80 h81 →
   ∃ x84 : Int, r80 = some (zI x84) ∧
   ((¬ x84 = x28 →
    Post (some (zI 0)) h81) ∧
   (x84 = x28 →
    Post (some (zI 1)) h81))))))) :
    zV RL cL_isGatherSo 11 (some .boolean) d Post Γ 0 [(0, zR 0), (1, zI a2), (2, zI a3)] [] h := by
  refine z_aload_n (pc := 0) (n := 0) dL_isGatherSo_0 rfl rfl ?_
  refine z_iload_n (pc := 1) (n := 1) dL_isGatherSo_1 rfl rfl ?_
  refine z_iload_n (pc := 2) (n := 2) dL_isGatherSo_2 rfl rfl ?_
  refine z_iconst (pc := 3) (a := 5) dL_isGatherSo_3 rfl ?_
  obtain ⟨d1, P2, e5, s6, Q⟩ := Q
  refine z_callV (pc := 4) (M := mX6_part) (as := [_, _, _]) (st := []) s6 zo_LentParts rfl wi_X6_part wm_X6_part ⟨by omega, by decide⟩ wl_L_56 dL_isGatherSo_4 rfl (Nat.le_of_ble_eq_true rfl) rfl ?_
  intro r3 h4 s6
  obtain ⟨x7, rfl, Q⟩ := Q _ _ s6
  refine z_istore_n (pc := 7) (ls' := [(3, _), (0, _), (1, _), (2, _)]) dL_isGatherSo_7 rfl (by decide) rfl ?_
  refine z_aload_n (pc := 8) (n := 1) dL_isGatherSo_8 rfl rfl ?_
  refine z_iload_n (pc := 9) (n := 2) dL_isGatherSo_9 rfl rfl ?_
  refine z_iload_n (pc := 10) (n := 3) dL_isGatherSo_10 rfl rfl ?_
  refine z_iconst (pc := 11) (a := 0) dL_isGatherSo_11 rfl ?_
  obtain ⟨d8, P9, e12, s13, Q⟩ := Q
  refine z_callV (pc := 12) (M := mX6_part) (as := [_, _, _]) (st := []) s13 zo_LentParts rfl wi_X6_part wm_X6_part ⟨by omega, by decide⟩ wl_L_56 dL_isGatherSo_12 rfl (Nat.le_of_ble_eq_true rfl) rfl ?_
  intro r10 h11 s13
  obtain ⟨x14, rfl, Q⟩ := Q _ _ s13
  refine z_istore (pc := 15) (ls' := [(4, _), (3, _), (0, _), (1, _), (2, _)]) dL_isGatherSo_15 (by decide) rfl ?_
  refine z_aload_n (pc := 17) (n := 2) dL_isGatherSo_17 rfl rfl ?_
  refine z_iload_n (pc := 18) (n := 4) dL_isGatherSo_18 rfl rfl ?_
  refine z_iconst (pc := 19) (a := 0) dL_isGatherSo_19 rfl ?_
  obtain ⟨d15, P16, e19, s20, Q⟩ := Q
  refine z_callV (pc := 20) (M := mX6_cell) (as := [_, _]) (st := []) s20 zo_LentParts rfl wi_X6_cell wm_X6_cell ⟨by omega, by decide⟩ wl_L_50 dL_isGatherSo_20 rfl (Nat.le_of_ble_eq_true rfl) rfl ?_
  intro r17 h18 s20
  obtain ⟨x21, rfl, Q⟩ := Q _ _ s20
  refine z_istore (pc := 23) (ls' := [(5, _), (4, _), (3, _), (0, _), (1, _), (2, _)]) dL_isGatherSo_23 (by decide) rfl ?_
  refine z_aload_n (pc := 25) (n := 3) dL_isGatherSo_25 rfl rfl ?_
  refine z_iconst (pc := 26) (a := 0) dL_isGatherSo_26 rfl ?_
  obtain ⟨d22, P23, e26, s27, Q⟩ := Q
  refine z_callV (pc := 27) (M := mX6_count) (as := [_]) (st := []) s27 zo_LentParts rfl wi_X6_count wm_X6_count ⟨by omega, by decide⟩ wl_L_14 dL_isGatherSo_27 rfl (Nat.le_of_ble_eq_true rfl) rfl ?_
  intro r24 h25 s27
  obtain ⟨x28, rfl, Q⟩ := Q _ _ s27
  refine z_istore (pc := 30) (ls' := [(6, _), (5, _), (4, _), (3, _), (0, _), (1, _), (2, _)]) dL_isGatherSo_30 (by decide) rfl ?_
  refine z_aload_n (pc := 32) (n := 4) dL_isGatherSo_32 rfl rfl ?_
  refine z_iconst (pc := 33) (a := 5) dL_isGatherSo_33 rfl ?_
  obtain ⟨d29, P30, e33, s34, Q⟩ := Q
  refine z_callV (pc := 34) (M := mX6_count) (as := [_]) (st := []) s34 zo_LentParts rfl wi_X6_count wm_X6_count ⟨by omega, by decide⟩ wl_L_14 dL_isGatherSo_34 rfl (Nat.le_of_ble_eq_true rfl) rfl ?_
  intro r31 h32 s34
  obtain ⟨x35, rfl, Q⟩ := Q _ _ s34
  refine z_istore (pc := 37) (ls' := [(7, _), (6, _), (5, _), (4, _), (3, _), (0, _), (1, _), (2, _)]) dL_isGatherSo_37 (by decide) rfl ?_
  refine z_aload_n (pc := 39) (n := 5) dL_isGatherSo_39 rfl rfl ?_
  refine z_iload_n (pc := 40) (n := 6) dL_isGatherSo_40 rfl rfl ?_
  refine z_iload_n (pc := 41) (n := 7) dL_isGatherSo_41 rfl rfl ?_
  obtain ⟨d36, P37, e40, s41, Q⟩ := Q
  refine z_callV (pc := 42) (M := mX6_gather) (as := [_, _]) (st := []) s41 zo_LentParts rfl wi_X6_gather wm_X6_gather ⟨by omega, by decide⟩ wl_L_31 dL_isGatherSo_42 rfl (Nat.le_of_ble_eq_true rfl) rfl ?_
  intro r38 h39 s41
  obtain ⟨x42, rfl, Q⟩ := Q _ _ s41
  refine z_istore (pc := 45) (ls' := [(8, _), (7, _), (6, _), (5, _), (4, _), (3, _), (0, _), (1, _), (2, _)]) dL_isGatherSo_45 (by decide) rfl ?_
  refine z_iload (pc := 47) (n := 0) dL_isGatherSo_47 rfl ?_
  refine z_bipush (pc := 49) (a := -5) dL_isGatherSo_49 rfl ?_
  refine z_icmp_ne (pc := 51) (tgt := 76) dL_isGatherSo_51 (by decide) (fun c => ?_) (fun c => ?_)
  · replace Q := Q.1 c
    refine z_iload (pc := 76) (n := 0) dL_isGatherSo_76 rfl ?_
    refine z_iload_n (pc := 78) (n := 5) dL_isGatherSo_78 rfl rfl ?_
    refine z_icmp_ne (pc := 79) (tgt := 137) dL_isGatherSo_79 (by decide) (fun c => ?_) (fun c => ?_)
    · replace Q := Q.1 c
      exact z_sub (ks := [6, 7, 8, 5, 4, 3, 2, 1, 0]) rfl Q
    · replace Q := Q.2 c
      refine z_aload_n (pc := 82) (n := 6) dL_isGatherSo_82 rfl rfl ?_
      refine z_iload_n (pc := 83) (n := 7) dL_isGatherSo_83 rfl rfl ?_
      refine z_iload_n (pc := 84) (n := 8) dL_isGatherSo_84 rfl rfl ?_
      refine z_iconst (pc := 85) (a := 0) dL_isGatherSo_85 rfl ?_
      obtain ⟨d43, P44, e47, s48, Q⟩ := Q
      refine z_callV (pc := 86) (M := mX6_part) (as := [_, _, _]) (st := []) s48 zo_LentParts rfl wi_X6_part wm_X6_part ⟨by omega, by decide⟩ wl_L_56 dL_isGatherSo_86 rfl (Nat.le_of_ble_eq_true rfl) rfl ?_
      intro r45 h46 s48
      obtain ⟨x49, rfl, Q⟩ := Q _ _ s48
      refine z_iload_n (pc := 89) (n := 5) dL_isGatherSo_89 rfl rfl ?_
      refine z_icmp_ne (pc := 90) (tgt := 137) dL_isGatherSo_90 (by decide) (fun c => ?_) (fun c => ?_)
      · replace Q := Q.1 c
        exact z_sub (ks := [6, 7, 8, 5, 4, 3, 2, 1, 0]) rfl Q
      · replace Q := Q.2 c
        refine z_aload_n (pc := 93) (n := 6) dL_isGatherSo_93 rfl rfl ?_
        refine z_iload_n (pc := 94) (n := 8) dL_isGatherSo_94 rfl rfl ?_
        refine z_iconst (pc := 95) (a := 0) dL_isGatherSo_95 rfl ?_
        obtain ⟨d50, P51, e54, s55, Q⟩ := Q
        refine z_callV (pc := 96) (M := mX6_cell) (as := [_, _]) (st := []) s55 zo_LentParts rfl wi_X6_cell wm_X6_cell ⟨by omega, by decide⟩ wl_L_50 dL_isGatherSo_96 rfl (Nat.le_of_ble_eq_true rfl) rfl ?_
        intro r52 h53 s55
        obtain ⟨x56, rfl, Q⟩ := Q _ _ s55
        refine z_iload (pc := 99) (n := 3) dL_isGatherSo_99 rfl ?_
        refine z_icmp_ne (pc := 101) (tgt := 137) dL_isGatherSo_101 (by decide) (fun c => ?_) (fun c => ?_)
        · replace Q := Q.1 c
          exact z_sub (ks := [6, 7, 8, 5, 4, 3, 2, 1, 0]) rfl Q
        · replace Q := Q.2 c
          refine z_aload_n (pc := 104) (n := 6) dL_isGatherSo_104 rfl rfl ?_
          refine z_iconst (pc := 105) (a := 5) dL_isGatherSo_105 rfl ?_
          obtain ⟨d57, P58, e61, s62, Q⟩ := Q
          refine z_callV (pc := 106) (M := mX6_count) (as := [_]) (st := []) s62 zo_LentParts rfl wi_X6_count wm_X6_count ⟨by omega, by decide⟩ wl_L_14 dL_isGatherSo_106 rfl (Nat.le_of_ble_eq_true rfl) rfl ?_
          intro r59 h60 s62
          obtain ⟨x63, rfl, Q⟩ := Q _ _ s62
          refine z_iload (pc := 109) (n := 1) dL_isGatherSo_109 rfl ?_
          refine z_isub (pc := 111) dL_isGatherSo_111 ?_
          refine z_iload (pc := 112) (n := 2) dL_isGatherSo_112 rfl ?_
          refine z_aload_n (pc := 114) (n := 6) dL_isGatherSo_114 rfl rfl ?_
          refine z_iconst (pc := 115) (a := 0) dL_isGatherSo_115 rfl ?_
          obtain ⟨d64, P65, e68, s69, Q⟩ := Q
          refine z_callV (pc := 116) (M := mX6_count) (as := [_]) (st := [_, _]) s69 zo_LentParts rfl wi_X6_count wm_X6_count ⟨by omega, by decide⟩ wl_L_14 dL_isGatherSo_116 rfl (Nat.le_of_ble_eq_true rfl) rfl ?_
          intro r66 h67 s69
          obtain ⟨x70, rfl, Q⟩ := Q _ _ s69
          refine z_isub (pc := 119) dL_isGatherSo_119 ?_
          refine z_icmp_ne (pc := 120) (tgt := 137) dL_isGatherSo_120 (by decide) (fun c => ?_) (fun c => ?_)
          · replace Q := Q.1 c
            exact z_sub (ks := [6, 7, 8, 5, 4, 3, 2, 1, 0]) rfl Q
          · replace Q := Q.2 c
            refine z_aload_n (pc := 123) (n := 6) dL_isGatherSo_123 rfl rfl ?_
            refine z_iconst (pc := 124) (a := 0) dL_isGatherSo_124 rfl ?_
            obtain ⟨d71, P72, e75, s76, Q⟩ := Q
            refine z_callV (pc := 125) (M := mX6_count) (as := [_]) (st := []) s76 zo_LentParts rfl wi_X6_count wm_X6_count ⟨by omega, by decide⟩ wl_L_14 dL_isGatherSo_125 rfl (Nat.le_of_ble_eq_true rfl) rfl ?_
            intro r73 h74 s76
            obtain ⟨x77, rfl, Q⟩ := Q _ _ s76
            refine z_iload (pc := 128) (n := 2) dL_isGatherSo_128 rfl ?_
            refine z_icmp_ge (pc := 130) (tgt := 137) dL_isGatherSo_130 (by decide) (fun c => ?_) (fun c => ?_)
            · replace Q := Q.1 c
              exact z_sub (ks := [6, 7, 8, 5, 4, 3, 2, 1, 0]) rfl Q
            · replace Q := Q.2 c
              refine z_iconst (pc := 133) (a := 1) dL_isGatherSo_133 rfl ?_
              refine z_goto (pc := 134) (tgt := 138) dL_isGatherSo_134 (by decide) ?_
              exact z_sub (ks := [6, 7, 8, 5, 4, 3, 2, 1, 0]) rfl Q
  · replace Q := Q.2 c
    refine z_iload_n (pc := 54) (n := 5) dL_isGatherSo_54 rfl rfl ?_
    refine z_iload (pc := 55) (n := 4) dL_isGatherSo_55 rfl ?_
    refine z_icmp_ne (pc := 57) (tgt := 74) dL_isGatherSo_57 (by decide) (fun c => ?_) (fun c => ?_)
    · replace Q := Q.1 c
      refine z_iconst (pc := 74) (a := 0) dL_isGatherSo_74 rfl ?_
      exact z_zret (pc := 75) rfl (by decide) dL_isGatherSo_75 Q
    · replace Q := Q.2 c
      refine z_aload_n (pc := 60) (n := 6) dL_isGatherSo_60 rfl rfl ?_
      refine z_iconst (pc := 61) (a := 0) dL_isGatherSo_61 rfl ?_
      obtain ⟨d78, P79, e82, s83, Q⟩ := Q
      refine z_callV (pc := 62) (M := mX6_count) (as := [_]) (st := []) s83 zo_LentParts rfl wi_X6_count wm_X6_count ⟨by omega, by decide⟩ wl_L_14 dL_isGatherSo_62 rfl (Nat.le_of_ble_eq_true rfl) rfl ?_
      intro r80 h81 s83
      obtain ⟨x84, rfl, Q⟩ := Q _ _ s83
      refine z_iload (pc := 65) (n := 2) dL_isGatherSo_65 rfl ?_
      refine z_icmp_ne (pc := 67) (tgt := 74) dL_isGatherSo_67 (by decide) (fun c => ?_) (fun c => ?_)
      · replace Q := Q.1 c
        refine z_iconst (pc := 74) (a := 0) dL_isGatherSo_74 rfl ?_
        exact z_zret (pc := 75) rfl (by decide) dL_isGatherSo_75 Q
      · replace Q := Q.2 c
        refine z_iconst (pc := 70) (a := 1) dL_isGatherSo_70 rfl ?_
        refine z_goto (pc := 71) (tgt := 75) dL_isGatherSo_71 (by decide) ?_
        exact z_zret (pc := 75) rfl (by decide) dL_isGatherSo_75 Q
set_option maxHeartbeats 4000000 in
set_option maxRecDepth 100000 in
theorem k_L_isGatherSo_137 {d : Nat} {Post : Option zA → zH → Prop} {Γ : zCx} {h : zH} {v1 : Int} {v2 : Int} {v3 : Int} {v4 : Int} {v5 : Int} {v6 : Int} {v7 : Int} {v8 : Int}  (hd : 1 ≤ d) (Q :
 zV RL cL_isGatherSo 11 (some .boolean) d Post Γ 138 [(0, zR 0), (1, zI v1), (2, zI v2), (3, zI v3), (4, zI v4), (5, zI v5), (6, zI v6), (7, zI v7), (8, zI v8)] [zI 0] h) :
    zV RL cL_isGatherSo 11 (some .boolean) d Post Γ 137 [(0, zR 0), (1, zI v1), (2, zI v2), (3, zI v3), (4, zI v4), (5, zI v5), (6, zI v6), (7, zI v7), (8, zI v8)] [] h := by
  refine z_iconst (pc := 137) (a := 0) dL_isGatherSo_137 rfl ?_
  exact z_sub (ks := [0, 1, 2, 3, 4, 5, 6, 7, 8]) rfl Q
set_option maxHeartbeats 4000000 in
set_option maxRecDepth 100000 in
theorem k_L_isGatherSo_138 {d : Nat} {Post : Option zA → zH → Prop} {Γ : zCx} {h : zH} {v1 : Int} {v2 : Int} {v3 : Int} {v4 : Int} {v5 : Int} {v6 : Int} {v7 : Int} {v8 : Int} {w0 : Int}  (hd : 1 ≤ d) (Q :
 ∃ (d1 : Nat) (P2 : Option zA → zH → Prop), d1 + 1 ≤ d ∧ zSp d1 mX6_undo [zR 0] h P2 ∧ ∀ r3 h4, P2 r3 h4 →
 ∃ x7 : Int, r3 = some (zI x7) ∧
 ((w0 = 0 →
  Post (some (zI 0)) h4) ∧
 (¬ w0 = 0 →
  ((x7 < 0 →
   Post (some (zI 0)) h4) ∧
  (¬ x7 < 0 →
   ∃ (d8 : Nat) (P9 : Option zA → zH → Prop), d8 + 1 ≤ d ∧ zSp d8 mX6_part [zR 0, zI v1, zI v2, zI 0] h4 P9 ∧ ∀ r10 h11, P9 r10 h11 →
   ∃ x14 : Int, r10 = some (zI x14) ∧
   ((¬ x14 = v4 →
    Post (some (zI 0)) h11) ∧
   (x14 = v4 →
    ∃ (d15 : Nat) (P16 : Option zA → zH → Prop), d15 + 1 ≤ d ∧ zSp d15 mX6_count [zR 0, zI 0] h11 P16 ∧ ∀ r17 h18, P16 r17 h18 →
    ∃ x21 : Int, r17 = some (zI x21) ∧
    ((¬ x21 = v6 →
     Post (some (zI 0)) h18) ∧
    (x21 = v6 →
     Post (some (zI 1)) h18))))))))) :
    zV RL cL_isGatherSo 11 (some .boolean) d Post Γ 138 [(0, zR 0), (1, zI v1), (2, zI v2), (3, zI v3), (4, zI v4), (5, zI v5), (6, zI v6), (7, zI v7), (8, zI v8)] [zI w0] h := by
  refine z_istore (pc := 138) (ls' := [(9, _), (0, _), (1, _), (2, _), (3, _), (4, _), (5, _), (6, _), (7, _), (8, _)]) dL_isGatherSo_138 (by decide) rfl ?_
  refine z_aload_n (pc := 140) (n := 1) dL_isGatherSo_140 rfl rfl ?_
  obtain ⟨d1, P2, e5, s6, Q⟩ := Q
  refine z_callV (pc := 141) (M := mX6_undo) (as := []) (st := []) s6 zo_LentParts rfl wi_X6_undo wm_X6_undo ⟨by omega, by decide⟩ wl_L_68 dL_isGatherSo_141 rfl (Nat.le_of_ble_eq_true rfl) rfl ?_
  intro r3 h4 s6
  obtain ⟨x7, rfl, Q⟩ := Q _ _ s6
  refine z_istore (pc := 144) (ls' := [(10, _), (9, _), (0, _), (1, _), (2, _), (3, _), (4, _), (5, _), (6, _), (7, _), (8, _)]) dL_isGatherSo_144 (by decide) rfl ?_
  refine z_iload (pc := 146) (n := 1) dL_isGatherSo_146 rfl ?_
  refine z_if_eq (pc := 148) (tgt := 182) dL_isGatherSo_148 (by decide) (fun c => ?_) (fun c => ?_)
  · replace Q := Q.1 c
    refine z_iconst (pc := 182) (a := 0) dL_isGatherSo_182 rfl ?_
    exact z_zret (pc := 183) rfl (by decide) dL_isGatherSo_183 Q
  · replace Q := Q.2 c
    refine z_iload (pc := 151) (n := 0) dL_isGatherSo_151 rfl ?_
    refine z_if_lt (pc := 153) (tgt := 182) dL_isGatherSo_153 (by decide) (fun c => ?_) (fun c => ?_)
    · replace Q := Q.1 c
      refine z_iconst (pc := 182) (a := 0) dL_isGatherSo_182 rfl ?_
      exact z_zret (pc := 183) rfl (by decide) dL_isGatherSo_183 Q
    · replace Q := Q.2 c
      refine z_aload_n (pc := 156) (n := 2) dL_isGatherSo_156 rfl rfl ?_
      refine z_iload_n (pc := 157) (n := 3) dL_isGatherSo_157 rfl rfl ?_
      refine z_iload_n (pc := 158) (n := 4) dL_isGatherSo_158 rfl rfl ?_
      refine z_iconst (pc := 159) (a := 0) dL_isGatherSo_159 rfl ?_
      obtain ⟨d8, P9, e12, s13, Q⟩ := Q
      refine z_callV (pc := 160) (M := mX6_part) (as := [_, _, _]) (st := []) s13 zo_LentParts rfl wi_X6_part wm_X6_part ⟨by omega, by decide⟩ wl_L_56 dL_isGatherSo_160 rfl (Nat.le_of_ble_eq_true rfl) rfl ?_
      intro r10 h11 s13
      obtain ⟨x14, rfl, Q⟩ := Q _ _ s13
      refine z_iload (pc := 163) (n := 6) dL_isGatherSo_163 rfl ?_
      refine z_icmp_ne (pc := 165) (tgt := 182) dL_isGatherSo_165 (by decide) (fun c => ?_) (fun c => ?_)
      · replace Q := Q.1 c
        refine z_iconst (pc := 182) (a := 0) dL_isGatherSo_182 rfl ?_
        exact z_zret (pc := 183) rfl (by decide) dL_isGatherSo_183 Q
      · replace Q := Q.2 c
        refine z_aload_n (pc := 168) (n := 2) dL_isGatherSo_168 rfl rfl ?_
        refine z_iconst (pc := 169) (a := 0) dL_isGatherSo_169 rfl ?_
        obtain ⟨d15, P16, e19, s20, Q⟩ := Q
        refine z_callV (pc := 170) (M := mX6_count) (as := [_]) (st := []) s20 zo_LentParts rfl wi_X6_count wm_X6_count ⟨by omega, by decide⟩ wl_L_14 dL_isGatherSo_170 rfl (Nat.le_of_ble_eq_true rfl) rfl ?_
        intro r17 h18 s20
        obtain ⟨x21, rfl, Q⟩ := Q _ _ s20
        refine z_iload (pc := 173) (n := 8) dL_isGatherSo_173 rfl ?_
        refine z_icmp_ne (pc := 175) (tgt := 182) dL_isGatherSo_175 (by decide) (fun c => ?_) (fun c => ?_)
        · replace Q := Q.1 c
          refine z_iconst (pc := 182) (a := 0) dL_isGatherSo_182 rfl ?_
          exact z_zret (pc := 183) rfl (by decide) dL_isGatherSo_183 Q
        · replace Q := Q.2 c
          refine z_iconst (pc := 178) (a := 1) dL_isGatherSo_178 rfl ?_
          refine z_goto (pc := 179) (tgt := 183) dL_isGatherSo_179 (by decide) ?_
          exact z_zret (pc := 183) rfl (by decide) dL_isGatherSo_183 Q
