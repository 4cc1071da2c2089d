/-! p26: the law's walk, from cut to cut (printed by wip/gen/genlaw26.py) -/
set_option maxHeartbeats 4000000 in
set_option maxRecDepth 100000 in
theorem k_L_law_10 {Γ : yCx} {h : zH} {v2 : Int} (Q :
 ((48 ≤ v2 →
  yV Γ 220 [(0, zR 128), (1, zR 0), (2, zI v2)] [] h) ∧
 (¬ 48 ≤ v2 →
  0 ≤ v2 ∧
  ∀ x2 : Int,
  ∀ x3 : Int, x3 = (zlow (zshr x2 10) 2) →
  ∃ (d4 : Nat) (P5 : Option zA → zH → Prop), d4 ≤ 100 ∧ zSp d4 mX6_cell [zR 0, zI x3, zI 5] h P5 ∧ ∀ r6 h7, P5 r6 h7 →
  ∃ x10 : Int, r6 = some (zI x10) ∧
  ∃ (d11 : Nat) (P12 : Option zA → zH → Prop), d11 ≤ 100 ∧ zSp d11 mX6_cell [zR 0, zI x3, zI 1] h7 P12 ∧ ∀ r13 h14, P12 r13 h14 →
  ∃ x17 : Int, r13 = some (zI x17) ∧
  ∃ (d18 : Nat) (P19 : Option zA → zH → Prop), d18 ≤ 100 ∧ zSp d18 mL_does [zR 0, zI x2] h14 P19 ∧ ∀ r20 h21, P19 r20 h21 →
  ∃ x24 : Int, r20 = some (zI x24) ∧
  (((zand x2 15) = 12 →
   yV Γ 75 [(0, zR 128), (1, zR 0), (2, zI v2), (3, zI x2), (4, zI x3), (5, zI x10), (6, zI x17), (7, zI x24)] [] h21) ∧
  (¬ (zand x2 15) = 12 →
   ((¬ (zand x2 15) = 13 →
    yV Γ 91 [(0, zR 128), (1, zR 0), (2, zI v2), (3, zI x2), (4, zI x3), (5, zI x10), (6, zI x17), (7, zI x24)] [] h21) ∧
   ((zand x2 15) = 13 →
    yV Γ 75 [(0, zR 128), (1, zR 0), (2, zI v2), (3, zI x2), (4, zI x3), (5, zI x10), (6, zI x17), (7, zI x24)] [] h21))))))) :
    yV Γ 10 [(0, zR 128), (1, zR 0), (2, zI v2)] [] h := by
  refine y_iload_n (pc := 10) (n := 2) dL_law_10 rfl rfl ?_
  refine y_bipush (pc := 11) (a := 48) dL_law_11 rfl ?_
  refine y_icmp_ge (pc := 13) (tgt := 220) dL_law_13 (by decide) (fun c => ?_) (fun c => ?_)
  · replace Q := Q.1 c
    exact y_sub (ks := [0, 1, 2]) rfl Q
  · replace Q := Q.2 c
    refine y_aload_n (pc := 16) (n := 0) dL_law_16 rfl rfl ?_
    refine y_iload_n (pc := 17) (n := 2) dL_law_17 rfl rfl ?_
    obtain ⟨c1, Q⟩ := Q
    refine y_cell (pc := 18) c1 (Nat.le_of_ble_eq_true rfl) dL_law_18 (fun x2 => ?_)
    replace Q := Q x2
    refine y_istore_n (pc := 21) (ls' := [(3, _), (0, _), (1, _), (2, _)]) dL_law_21 rfl (by decide) rfl ?_
    refine y_iload_n (pc := 22) (n := 0) dL_law_22 rfl rfl ?_
    refine y_bipush (pc := 23) (a := 10) dL_law_23 rfl ?_
    refine y_ishr (pc := 25) dL_law_25 ?_
    refine y_iconst (pc := 26) (a := 2) dL_law_26 rfl ?_
    refine y_callS (pc := 27) (M := mL_low) (as := [_, _]) (st := []) (c_L_low (by decide)) wt_L_low wm_L_low ⟨by omega, by decide⟩ wl_L_8 dL_law_27 rfl (Nat.le_of_ble_eq_true rfl) rfl ?_
    rintro _ _ ⟨rfl, rfl⟩
    refine y_top (fun x3 ex3 => ?_)
    replace Q := Q x3 ex3
    refine y_istore (pc := 30) (ls' := [(4, _), (3, _), (0, _), (1, _), (2, _)]) dL_law_30 (by decide) rfl ?_
    refine y_aload_n (pc := 32) (n := 3) dL_law_32 rfl rfl ?_
    refine y_iload (pc := 33) (n := 0) dL_law_33 rfl ?_
    refine y_iconst (pc := 35) (a := 5) dL_law_35 rfl ?_
    obtain ⟨d4, P5, e8, s9, Q⟩ := Q
    refine y_callV (pc := 36) (M := mX6_cell) (as := [_, _]) (st := []) s9 zo_LentParts rfl wi_X6_cell wm_X6_cell ⟨by omega, by decide⟩ wl_L_50 dL_law_36 rfl (Nat.le_of_ble_eq_true rfl) rfl ?_
    intro r6 h7 s9
    obtain ⟨x10, rfl, Q⟩ := Q _ _ s9
    refine y_istore (pc := 39) (ls' := [(5, _), (4, _), (3, _), (0, _), (1, _), (2, _)]) dL_law_39 (by decide) rfl ?_
    refine y_aload_n (pc := 41) (n := 4) dL_law_41 rfl rfl ?_
    refine y_iload (pc := 42) (n := 1) dL_law_42 rfl ?_
    refine y_iconst (pc := 44) (a := 1) dL_law_44 rfl ?_
    obtain ⟨d11, P12, e15, s16, Q⟩ := Q
    refine y_callV (pc := 45) (M := mX6_cell) (as := [_, _]) (st := []) s16 zo_LentParts rfl wi_X6_cell wm_X6_cell ⟨by omega, by decide⟩ wl_L_50 dL_law_45 rfl (Nat.le_of_ble_eq_true rfl) rfl ?_
    intro r13 h14 s16
    obtain ⟨x17, rfl, Q⟩ := Q _ _ s16
    refine y_istore (pc := 48) (ls' := [(6, _), (5, _), (4, _), (3, _), (0, _), (1, _), (2, _)]) dL_law_48 (by decide) rfl ?_
    refine y_aload_n (pc := 50) (n := 5) dL_law_50 rfl rfl ?_
    refine y_iload_n (pc := 51) (n := 3) dL_law_51 rfl rfl ?_
    obtain ⟨d18, P19, e22, s23, Q⟩ := Q
    refine y_callS (pc := 52) (M := mL_does) (as := [_, _]) (st := []) s23 wt_L_does wm_L_does ⟨by omega, by decide⟩ wl_L_76 dL_law_52 rfl (Nat.le_of_ble_eq_true rfl) rfl ?_
    intro r20 h21 s23
    obtain ⟨x24, rfl, Q⟩ := Q _ _ s23
    refine y_istore (pc := 55) (ls' := [(7, _), (6, _), (5, _), (4, _), (3, _), (0, _), (1, _), (2, _)]) dL_law_55 (by decide) rfl ?_
    refine y_iload_n (pc := 57) (n := 4) dL_law_57 rfl rfl ?_
    refine y_bipush (pc := 58) (a := 15) dL_law_58 rfl ?_
    refine y_iand (pc := 60) dL_law_60 ?_
    refine y_bipush (pc := 61) (a := 12) dL_law_61 rfl ?_
    refine y_icmp_eq (pc := 63) (tgt := 75) dL_law_63 (by decide) (fun c => ?_) (fun c => ?_)
    · replace Q := Q.1 c
      exact y_sub (ks := [5, 6, 7, 4, 3, 2, 1, 0]) rfl Q
    · replace Q := Q.2 c
      refine y_iload_n (pc := 66) (n := 4) dL_law_66 rfl rfl ?_
      refine y_bipush (pc := 67) (a := 15) dL_law_67 rfl ?_
      refine y_iand (pc := 69) dL_law_69 ?_
      refine y_bipush (pc := 70) (a := 13) dL_law_70 rfl ?_
      refine y_icmp_ne (pc := 72) (tgt := 91) dL_law_72 (by decide) (fun c => ?_) (fun c => ?_)
      · replace Q := Q.1 c
        exact y_sub (ks := [5, 6, 7, 4, 3, 2, 1, 0]) rfl Q
      · replace Q := Q.2 c
        exact y_sub (ks := [5, 6, 7, 4, 3, 2, 1, 0]) rfl Q
set_option maxHeartbeats 4000000 in
set_option maxRecDepth 100000 in
theorem k_L_law_75 {Γ : yCx} {h : zH} {v2 : Int} {v3 : Int} {v4 : Int} {v5 : Int} {v6 : Int} {v7 : Int} (Q :
 ((v7 < 0 →
  yV Γ 91 [(0, zR 128), (1, zR 0), (2, zI v2), (3, zI v3), (4, zI v4), (5, zI v5), (6, zI v6), (7, zI v7)] [] h) ∧
 (¬ v7 < 0 →
  ((9 ≤ v7 →
   yV Γ 91 [(0, zR 128), (1, zR 0), (2, zI v2), (3, zI v3), (4, zI v4), (5, zI v5), (6, zI v6), (7, zI v7)] [] h) ∧
  (¬ 9 ≤ v7 →
   yV Γ 92 [(0, zR 128), (1, zR 0), (2, zI v2), (3, zI v3), (4, zI v4), (5, zI v5), (6, zI v6), (7, zI v7)] [zI 1] h))))) :
    yV Γ 75 [(0, zR 128), (1, zR 0), (2, zI v2), (3, zI v3), (4, zI v4), (5, zI v5), (6, zI v6), (7, zI v7)] [] h := by
  refine y_iload (pc := 75) (n := 7) dL_law_75 rfl ?_
  refine y_if_lt (pc := 77) (tgt := 91) dL_law_77 (by decide) (fun c => ?_) (fun c => ?_)
  · replace Q := Q.1 c
    exact y_sub (ks := [0, 1, 2, 3, 4, 5, 6, 7]) rfl Q
  · replace Q := Q.2 c
    refine y_iload (pc := 80) (n := 7) dL_law_80 rfl ?_
    refine y_bipush (pc := 82) (a := 9) dL_law_82 rfl ?_
    refine y_icmp_ge (pc := 84) (tgt := 91) dL_law_84 (by decide) (fun c => ?_) (fun c => ?_)
    · replace Q := Q.1 c
      exact y_sub (ks := [0, 1, 2, 3, 4, 5, 6, 7]) rfl Q
    · replace Q := Q.2 c
      refine y_iconst (pc := 87) (a := 1) dL_law_87 rfl ?_
      refine y_goto (pc := 88) (tgt := 92) dL_law_88 (by decide) ?_
      exact y_sub (ks := [0, 1, 2, 3, 4, 5, 6, 7]) rfl Q
set_option maxHeartbeats 4000000 in
set_option maxRecDepth 100000 in
theorem k_L_law_91 {Γ : yCx} {h : zH} {v2 : Int} {v3 : Int} {v4 : Int} {v5 : Int} {v6 : Int} {v7 : Int} (Q :
 yV Γ 92 [(0, zR 128), (1, zR 0), (2, zI v2), (3, zI v3), (4, zI v4), (5, zI v5), (6, zI v6), (7, zI v7)] [zI 0] h) :
    yV Γ 91 [(0, zR 128), (1, zR 0), (2, zI v2), (3, zI v3), (4, zI v4), (5, zI v5), (6, zI v6), (7, zI v7)] [] h := by
  refine y_iconst (pc := 91) (a := 0) dL_law_91 rfl ?_
  exact y_sub (ks := [0, 1, 2, 3, 4, 5, 6, 7]) rfl Q
set_option maxHeartbeats 4000000 in
set_option maxRecDepth 100000 in
theorem k_L_law_92 {Γ : yCx} {h : zH} {v2 : Int} {v3 : Int} {v4 : Int} {v5 : Int} {v6 : Int} {v7 : Int} {w0 : Int} (Q :
 ((¬ (zand v3 15) = 9 →
  yV Γ 112 [(0, zR 128), (1, zR 0), (2, zI v2), (3, zI v3), (4, zI v4), (5, zI v5), (6, zI v6), (7, zI v7), (8, zI w0)] [] h) ∧
 ((zand v3 15) = 9 →
  ((v7 < 0 →
   yV Γ 112 [(0, zR 128), (1, zR 0), (2, zI v2), (3, zI v3), (4, zI v4), (5, zI v5), (6, zI v6), (7, zI v7), (8, zI w0)] [] h) ∧
  (¬ v7 < 0 →
   yV Γ 113 [(0, zR 128), (1, zR 0), (2, zI v2), (3, zI v3), (4, zI v4), (5, zI v5), (6, zI v6), (7, zI v7), (8, zI w0)] [zI 1] h))))) :
    yV Γ 92 [(0, zR 128), (1, zR 0), (2, zI v2), (3, zI v3), (4, zI v4), (5, zI v5), (6, zI v6), (7, zI v7)] [zI w0] h := by
  refine y_istore (pc := 92) (ls' := [(8, _), (0, _), (1, _), (2, _), (3, _), (4, _), (5, _), (6, _), (7, _)]) dL_law_92 (by decide) rfl ?_
  refine y_iload_n (pc := 94) (n := 4) dL_law_94 rfl rfl ?_
  refine y_bipush (pc := 95) (a := 15) dL_law_95 rfl ?_
  refine y_iand (pc := 97) dL_law_97 ?_
  refine y_bipush (pc := 98) (a := 9) dL_law_98 rfl ?_
  refine y_icmp_ne (pc := 100) (tgt := 112) dL_law_100 (by decide) (fun c => ?_) (fun c => ?_)
  · replace Q := Q.1 c
    exact y_sub (ks := [1, 2, 3, 4, 5, 6, 7, 8, 0]) rfl Q
  · replace Q := Q.2 c
    refine y_iload (pc := 103) (n := 8) dL_law_103 rfl ?_
    refine y_if_lt (pc := 105) (tgt := 112) dL_law_105 (by decide) (fun c => ?_) (fun c => ?_)
    · replace Q := Q.1 c
      exact y_sub (ks := [1, 2, 3, 4, 5, 6, 7, 8, 0]) rfl Q
    · replace Q := Q.2 c
      refine y_iconst (pc := 108) (a := 1) dL_law_108 rfl ?_
      refine y_goto (pc := 109) (tgt := 113) dL_law_109 (by decide) ?_
      exact y_sub (ks := [1, 2, 3, 4, 5, 6, 7, 8, 0]) rfl Q
set_option maxHeartbeats 4000000 in
set_option maxRecDepth 100000 in
theorem k_L_law_112 {Γ : yCx} {h : zH} {v2 : Int} {v3 : Int} {v4 : Int} {v5 : Int} {v6 : Int} {v7 : Int} {v8 : Int} (Q :
 yV Γ 113 [(0, zR 128), (1, zR 0), (2, zI v2), (3, zI v3), (4, zI v4), (5, zI v5), (6, zI v6), (7, zI v7), (8, zI v8)] [zI 0] h) :
    yV Γ 112 [(0, zR 128), (1, zR 0), (2, zI v2), (3, zI v3), (4, zI v4), (5, zI v5), (6, zI v6), (7, zI v7), (8, zI v8)] [] h := by
  refine y_iconst (pc := 112) (a := 0) dL_law_112 rfl ?_
  exact y_sub (ks := [0, 1, 2, 3, 4, 5, 6, 7, 8]) rfl Q
set_option maxHeartbeats 4000000 in
set_option maxRecDepth 100000 in
theorem k_L_law_113 {Γ : yCx} {h : zH} {v2 : Int} {v3 : Int} {v4 : Int} {v5 : Int} {v6 : Int} {v7 : Int} {v8 : Int} {w0 : Int} (Q :
 ((v7 < (-5) →
  yV Γ 171 [(0, zR 128), (1, zR 0), (2, zI v2), (3, zI v3), (4, zI v4), (5, zI v5), (6, zI v6), (7, zI v7), (8, zI v8), (9, zI w0)] [] h) ∧
 (¬ v7 < (-5) →
  ((v8 = 0 →
   yV Γ 148 [(0, zR 128), (1, zR 0), (2, zI v2), (3, zI v3), (4, zI v4), (5, zI v5), (6, zI v6), (7, zI v7), (8, zI v8), (9, zI w0)] [] h) ∧
  (¬ v8 = 0 →
   ((¬ v7 = v5 →
    yV Γ 171 [(0, zR 128), (1, zR 0), (2, zI v2), (3, zI v3), (4, zI v4), (5, zI v5), (6, zI v6), (7, zI v7), (8, zI v8), (9, zI w0)] [] h) ∧
   (v7 = v5 →
    ∃ (d1 : Nat) (P2 : Option zA → zH → Prop), d1 ≤ 100 ∧ zSp d1 mX6_part [zR 0, zI v7, zI v4, zI 0] h P2 ∧ ∀ r3 h4, P2 r3 h4 →
    ∃ x7 : Int, r3 = some (zI x7) ∧
    ((¬ x7 = 64 →
     yV Γ 171 [(0, zR 128), (1, zR 0), (2, zI v2), (3, zI v3), (4, zI v4), (5, zI v5), (6, zI v6), (7, zI v7), (8, zI v8), (9, zI w0)] [] h4) ∧
    (x7 = 64 →
     yV Γ 148 [(0, zR 128), (1, zR 0), (2, zI v2), (3, zI v3), (4, zI v4), (5, zI v5), (6, zI v6), (7, zI v7), (8, zI v8), (9, zI w0)] [] h4))))))))) :
    yV Γ 113 [(0, zR 128), (1, zR 0), (2, zI v2), (3, zI v3), (4, zI v4), (5, zI v5), (6, zI v6), (7, zI v7), (8, zI v8)] [zI w0] h := by
  refine y_istore (pc := 113) (ls' := [(9, _), (0, _), (1, _), (2, _), (3, _), (4, _), (5, _), (6, _), (7, _), (8, _)]) dL_law_113 (by decide) rfl ?_
  refine y_iload (pc := 115) (n := 8) dL_law_115 rfl ?_
  refine y_bipush (pc := 117) (a := -5) dL_law_117 rfl ?_
  refine y_icmp_lt (pc := 119) (tgt := 171) dL_law_119 (by decide) (fun c => ?_) (fun c => ?_)
  · replace Q := Q.1 c
    exact y_sub (ks := [1, 2, 3, 4, 5, 6, 7, 8, 9, 0]) rfl Q
  · replace Q := Q.2 c
    refine y_iload (pc := 122) (n := 9) dL_law_122 rfl ?_
    refine y_if_eq (pc := 124) (tgt := 148) dL_law_124 (by decide) (fun c => ?_) (fun c => ?_)
    · replace Q := Q.1 c
      exact y_sub (ks := [1, 2, 3, 4, 5, 6, 7, 8, 9, 0]) rfl Q
    · replace Q := Q.2 c
      refine y_iload (pc := 127) (n := 8) dL_law_127 rfl ?_
      refine y_iload (pc := 129) (n := 6) dL_law_129 rfl ?_
      refine y_icmp_ne (pc := 131) (tgt := 171) dL_law_131 (by decide) (fun c => ?_) (fun c => ?_)
      · replace Q := Q.1 c
        exact y_sub (ks := [1, 2, 3, 4, 5, 6, 7, 8, 9, 0]) rfl Q
      · replace Q := Q.2 c
        refine y_aload_n (pc := 134) (n := 2) dL_law_134 rfl rfl ?_
        refine y_iload (pc := 135) (n := 8) dL_law_135 rfl ?_
        refine y_iload (pc := 137) (n := 5) dL_law_137 rfl ?_
        refine y_iconst (pc := 139) (a := 0) dL_law_139 rfl ?_
        obtain ⟨d1, P2, e5, s6, Q⟩ := Q
        refine y_callV (pc := 140) (M := mX6_part) (as := [_, _, _]) (st := []) s6 zo_LentParts rfl wi_X6_part wm_X6_part ⟨by omega, by decide⟩ wl_L_56 dL_law_140 rfl (Nat.le_of_ble_eq_true rfl) rfl ?_
        intro r3 h4 s6
        obtain ⟨x7, rfl, Q⟩ := Q _ _ s6
        refine y_bipush (pc := 143) (a := 64) dL_law_143 rfl ?_
        refine y_icmp_ne (pc := 145) (tgt := 171) dL_law_145 (by decide) (fun c => ?_) (fun c => ?_)
        · replace Q := Q.1 c
          exact y_sub (ks := [1, 2, 3, 4, 5, 6, 7, 8, 9, 0]) rfl Q
        · replace Q := Q.2 c
          exact y_sub (ks := [1, 2, 3, 4, 5, 6, 7, 8, 9, 0]) rfl Q
set_option maxHeartbeats 4000000 in
set_option maxRecDepth 100000 in
theorem k_L_law_148 {Γ : yCx} {h : zH} {v2 : Int} {v3 : Int} {v4 : Int} {v5 : Int} {v6 : Int} {v7 : Int} {v8 : Int} {v9 : Int} (Q :
 ∃ (d1 : Nat) (P2 : Option zA → zH → Prop), d1 ≤ 100 ∧ zSp d1 mX6_cell [zR 0, zI v4, zI 1] h P2 ∧ ∀ r3 h4, P2 r3 h4 →
 ∃ x7 : Int, r3 = some (zI x7) ∧
 ((v9 = 0 →
  yV Γ 167 [(0, zR 128), (1, zR 0), (2, zI v2), (3, zI v3), (4, zI v4), (5, zI v5), (6, zI v6), (7, zI v7), (8, zI v8), (9, zI v9)] [zI 0, zI v6, zI x7] h4) ∧
 (¬ v9 = 0 →
  yV Γ 167 [(0, zR 128), (1, zR 0), (2, zI v2), (3, zI v3), (4, zI v4), (5, zI v5), (6, zI v6), (7, zI v7), (8, zI v8), (9, zI v9)] [zI 1, zI v6, zI x7] h4))) :
    yV Γ 148 [(0, zR 128), (1, zR 0), (2, zI v2), (3, zI v3), (4, zI v4), (5, zI v5), (6, zI v6), (7, zI v7), (8, zI v8), (9, zI v9)] [] h := by
  refine y_aload_n (pc := 148) (n := 1) dL_law_148 rfl rfl ?_
  refine y_iload (pc := 149) (n := 4) dL_law_149 rfl ?_
  refine y_iconst (pc := 151) (a := 1) dL_law_151 rfl ?_
  obtain ⟨d1, P2, e5, s6, Q⟩ := Q
  refine y_callV (pc := 152) (M := mX6_cell) (as := [_, _]) (st := []) s6 zo_LentParts rfl wi_X6_cell wm_X6_cell ⟨by omega, by decide⟩ wl_L_50 dL_law_152 rfl (Nat.le_of_ble_eq_true rfl) rfl ?_
  intro r3 h4 s6
  obtain ⟨x7, rfl, Q⟩ := Q _ _ s6
  refine y_iload (pc := 155) (n := 6) dL_law_155 rfl ?_
  refine y_iload (pc := 157) (n := 9) dL_law_157 rfl ?_
  refine y_if_eq (pc := 159) (tgt := 166) dL_law_159 (by decide) (fun c => ?_) (fun c => ?_)
  · replace Q := Q.1 c
    refine y_iconst (pc := 166) (a := 0) dL_law_166 rfl ?_
    exact y_sub (ks := [0, 1, 2, 3, 4, 5, 6, 7, 8, 9]) rfl Q
  · replace Q := Q.2 c
    refine y_iconst (pc := 162) (a := 1) dL_law_162 rfl ?_
    refine y_goto (pc := 163) (tgt := 167) dL_law_163 (by decide) ?_
    exact y_sub (ks := [0, 1, 2, 3, 4, 5, 6, 7, 8, 9]) rfl Q
set_option maxHeartbeats 4000000 in
set_option maxRecDepth 100000 in
theorem k_L_law_167 {Γ : yCx} {h : zH} {v2 : Int} {v3 : Int} {v4 : Int} {v5 : Int} {v6 : Int} {v7 : Int} {v8 : Int} {v9 : Int} {w0 : Int} {w1 : Int} {w2 : Int} (Q :
 ((w2 = (zwr (w1 + w0)) →
  ∃ (d1 : Nat) (P2 : Option zA → zH → Prop), d1 ≤ 100 ∧ zSp d1 mL_isCellSo [zR 0, zI v4] h P2 ∧ ∀ r3 h4, P2 r3 h4 →
  ∃ x7 : Int, r3 = some (zI x7) ∧
  ((x7 = 0 →
   yV Γ 212 [(0, zR 128), (1, zR 0), (2, zI v2), (3, zI v3), (4, zI v4), (5, zI v5), (6, zI v6), (7, zI v7), (8, zI v8), (9, zI v9)] [] h4) ∧
  (¬ x7 = 0 →
   ((¬ (zrem v2 3) = 1 →
    ∀ x8 : Int, x8 = zwr (v2 + 1) →
    yV Γ 10 [(0, zR 128), (1, zR 0), (2, zI x8)] [] h4) ∧
   ((zrem v2 3) = 1 →
    ∃ (d9 : Nat) (P10 : Option zA → zH → Prop), d9 ≤ 100 ∧ zSp d9 mL_isGatherSo [zR 0, zI (zlow (zshr v3 5) 6), zI (zlow (zshr v3 8) 2)] h4 P10 ∧ ∀ r11 h12, P10 r11 h12 →
    ∃ x15 : Int, r11 = some (zI x15) ∧
    ((¬ x15 = 0 →
     ∀ x16 : Int, x16 = zwr (v2 + 1) →
     yV Γ 10 [(0, zR 128), (1, zR 0), (2, zI x16)] [] h12) ∧
    (x15 = 0 →
     yV Γ 212 [(0, zR 128), (1, zR 0), (2, zI v2), (3, zI v3), (4, zI v4), (5, zI v5), (6, zI v6), (7, zI v7), (8, zI v8), (9, zI v9)] [] h12))))))) ∧
 (¬ w2 = (zwr (w1 + w0)) →
  yV Γ 171 [(0, zR 128), (1, zR 0), (2, zI v2), (3, zI v3), (4, zI v4), (5, zI v5), (6, zI v6), (7, zI v7), (8, zI v8), (9, zI v9)] [] h))) :
    yV Γ 167 [(0, zR 128), (1, zR 0), (2, zI v2), (3, zI v3), (4, zI v4), (5, zI v5), (6, zI v6), (7, zI v7), (8, zI v8), (9, zI v9)] [zI w0, zI w1, zI w2] h := by
  refine y_iadd (pc := 167) dL_law_167 ?_
  refine y_icmp_eq (pc := 168) (tgt := 173) dL_law_168 (by decide) (fun c => ?_) (fun c => ?_)
  · replace Q := Q.1 c
    refine y_aload_n (pc := 173) (n := 1) dL_law_173 rfl rfl ?_
    refine y_iload (pc := 174) (n := 4) dL_law_174 rfl ?_
    obtain ⟨d1, P2, e5, s6, Q⟩ := Q
    refine y_callS (pc := 176) (M := mL_isCellSo) (as := [_, _]) (st := []) s6 wt_L_isCellSo wm_L_isCellSo ⟨by omega, by decide⟩ wl_L_80 dL_law_176 rfl (Nat.le_of_ble_eq_true rfl) rfl ?_
    intro r3 h4 s6
    obtain ⟨x7, rfl, Q⟩ := Q _ _ s6
    refine y_if_eq (pc := 179) (tgt := 212) dL_law_179 (by decide) (fun c => ?_) (fun c => ?_)
    · replace Q := Q.1 c
      exact y_sub (ks := [0, 1, 2, 3, 4, 5, 6, 7, 8, 9]) rfl Q
    · replace Q := Q.2 c
      refine y_iload_n (pc := 182) (n := 2) dL_law_182 rfl rfl ?_
      refine y_iconst (pc := 183) (a := 3) dL_law_183 rfl ?_
      refine y_irem (pc := 184) dL_law_184 (by decide) ?_
      refine y_iconst (pc := 185) (a := 1) dL_law_185 rfl ?_
      refine y_icmp_ne (pc := 186) (tgt := 214) dL_law_186 (by decide) (fun c => ?_) (fun c => ?_)
      · replace Q := Q.1 c
        refine y_iincg (pc := 214) (n := 2) (lf := fun y => [(2, zI y), (0, _), (1, _), (3, _), (4, _), (5, _), (6, _), (7, _), (8, _), (9, _)]) dL_law_214 rfl (by decide) (fun _ => rfl) (fun x8 ex8 => ?_)
        replace Q := Q x8 ex8
        refine y_goto (pc := 217) (tgt := 10) dL_law_217 (by decide) ?_
        exact y_sub (ks := [1, 2, 0]) rfl Q
      · replace Q := Q.2 c
        refine y_aload_n (pc := 189) (n := 1) dL_law_189 rfl rfl ?_
        refine y_iload_n (pc := 190) (n := 3) dL_law_190 rfl rfl ?_
        refine y_iconst (pc := 191) (a := 5) dL_law_191 rfl ?_
        refine y_ishr (pc := 192) dL_law_192 ?_
        refine y_bipush (pc := 193) (a := 6) dL_law_193 rfl ?_
        refine y_callS (pc := 195) (M := mL_low) (as := [_, _]) (st := [_]) (c_L_low (by decide)) wt_L_low wm_L_low ⟨by omega, by decide⟩ wl_L_8 dL_law_195 rfl (Nat.le_of_ble_eq_true rfl) rfl ?_
        rintro _ _ ⟨rfl, rfl⟩
        refine y_iload_n (pc := 198) (n := 3) dL_law_198 rfl rfl ?_
        refine y_bipush (pc := 199) (a := 8) dL_law_199 rfl ?_
        refine y_ishr (pc := 201) dL_law_201 ?_
        refine y_iconst (pc := 202) (a := 2) dL_law_202 rfl ?_
        refine y_callS (pc := 203) (M := mL_low) (as := [_, _]) (st := [_, _]) (c_L_low (by decide)) wt_L_low wm_L_low ⟨by omega, by decide⟩ wl_L_8 dL_law_203 rfl (Nat.le_of_ble_eq_true rfl) rfl ?_
        rintro _ _ ⟨rfl, rfl⟩
        obtain ⟨d9, P10, e13, s14, Q⟩ := Q
        refine y_callS (pc := 206) (M := mL_isGatherSo) (as := [_, _, _]) (st := []) s14 wt_L_isGatherSo wm_L_isGatherSo ⟨by omega, by decide⟩ wl_L_84 dL_law_206 rfl (Nat.le_of_ble_eq_true rfl) rfl ?_
        intro r11 h12 s14
        obtain ⟨x15, rfl, Q⟩ := Q _ _ s14
        refine y_if_ne (pc := 209) (tgt := 214) dL_law_209 (by decide) (fun c => ?_) (fun c => ?_)
        · replace Q := Q.1 c
          refine y_iincg (pc := 214) (n := 2) (lf := fun y => [(2, zI y), (0, _), (1, _), (3, _), (4, _), (5, _), (6, _), (7, _), (8, _), (9, _)]) dL_law_214 rfl (by decide) (fun _ => rfl) (fun x16 ex16 => ?_)
          replace Q := Q x16 ex16
          refine y_goto (pc := 217) (tgt := 10) dL_law_217 (by decide) ?_
          exact y_sub (ks := [1, 2, 0]) rfl Q
        · replace Q := Q.2 c
          exact y_sub (ks := [0, 1, 2, 3, 4, 5, 6, 7, 8, 9]) rfl Q
  · replace Q := Q.2 c
    exact y_sub (ks := [0, 1, 2, 3, 4, 5, 6, 7, 8, 9]) rfl Q
