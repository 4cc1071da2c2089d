/-! walks of methods, from cut to cut (printed by wip/gen/genk.py) -/
set_option maxHeartbeats 4000000 in
set_option maxRecDepth 100000 in
theorem k_X7_handOver_0 {d : Nat} {Post : Option zA → zH → Prop} {Γ : zCx} {h : zH} {a1 : Int} {a2 : Int}  (hd : 3 ≤ d) (Q :
 ((¬ (0 ≤ a1 ∧ a1 ≤ 5) →
  Post (some (zI (-1))) h) ∧
 (0 ≤ a1 ∧ a1 ≤ 5 →
  ((0 ≤ a2 ∧ a2 ≤ 5 →
   0 ≤ (zwr (126 + a1)) ∧ (zwr (126 + a1)) < 336 ∧
   ∀ x3 : Int, x3 = (h 129 (zwr (126 + a1)).toNat) →
   ∃ (d4 : Nat) (P5 : Option zA → zH → Prop), d4 + 1 ≤ d ∧ zSp d4 mX7_loansOf [zR 128, zI a1] h P5 ∧ ∀ r6 h7, P5 r6 h7 →
   ∃ x10 : Int, r6 = some (zI x10) ∧
   ((0 < x10 →
    Post (some (zI (-4))) h7) ∧
   (¬ 0 < x10 →
    (0 ≤ x3 ∧ x3 ≤ 5) ∧
    (0 ≤ a1 ∧ a1 ≤ 5) ∧
    0 ≤ (36 + 6 * a1 + x3) ∧ (36 + 6 * a1 + x3) < 336 ∧
    ((¬ (h7 129 (36 + 6 * a1 + x3).toNat) = 1 →
     ((¬ x3 = a2 →
      ∃ (d15 : Nat) (P16 : Option zA → zH → Prop), d15 + 1 ≤ d ∧ zSp d15 mX7_know [zR 128] h7 P16 ∧ ∀ r17 h18, P16 r17 h18 →
      r17 = none ∧
      0 ≤ (zwr (126 + a1)) ∧ (zwr (126 + a1)) < 336 ∧
      ∀ h23 : zH, h23 = zu h18 129 (zwr (126 + a1)).toNat a2 →
      (0 ≤ x3 ∧ x3 ≤ 5) ∧
      (0 ≤ a1 ∧ a1 ≤ 5) ∧
      0 ≤ (6 * a1 + x3) ∧ (6 * a1 + x3) < 336 ∧
      ∀ h28 : zH, h28 = zu h23 129 (6 * a1 + x3).toNat 0 →
      (0 ≤ a2 ∧ a2 ≤ 5) ∧
      (0 ≤ a1 ∧ a1 ≤ 5) ∧
      0 ≤ (6 * a1 + a2) ∧ (6 * a1 + a2) < 336 ∧
      ∀ h33 : zH, h33 = zu h28 129 (6 * a1 + a2).toNat 64 →
      Post (some (zI x3)) h33) ∧
     (x3 = a2 →
      Post (some (zI (-5))) h7))) ∧
    ((h7 129 (36 + 6 * a1 + x3).toNat) = 1 →
     Post (some (zI (-4))) h7))))) ∧
  (¬ (0 ≤ a2 ∧ a2 ≤ 5) →
   Post (some (zI (-1))) h))))) :
    zV RX7 cX7_handOver 4 (some .int) d Post Γ 0 [(0, zR 128), (1, zI a1), (2, zI a2)] [] h := by
  refine z_iload_n (pc := 0) (n := 1) dX7_handOver_0 rfl rfl ?_
  refine z_callS (pc := 1) (M := mX7_isCell) (as := [_]) (st := []) c_X7_isCell wt_X7_isCell wm_X7_isCell ⟨by omega, by decide⟩ wl_X7_63 dX7_handOver_1 rfl (Nat.le_of_ble_eq_true rfl) rfl ?_
  rintro _ _ ⟨rfl, rfl⟩
  refine z_ifb_eq (pc := 4) (tgt := 14) dX7_handOver_4 (by decide) (fun c => ?_) (fun c => ?_)
  · replace Q := Q.1 c
    refine z_iconst (pc := 14) (a := -1) dX7_handOver_14 rfl ?_
    exact z_iret (pc := 15) rfl dX7_handOver_15 Q
  · replace Q := Q.2 c
    refine z_iload_n (pc := 7) (n := 2) dX7_handOver_7 rfl rfl ?_
    refine z_callS (pc := 8) (M := mX7_isAgent) (as := [_]) (st := []) c_X7_isAgent wt_X7_isAgent wm_X7_isAgent ⟨by omega, by decide⟩ wl_X7_59 dX7_handOver_8 rfl (Nat.le_of_ble_eq_true rfl) rfl ?_
    rintro _ _ ⟨rfl, rfl⟩
    refine z_ifb_ne (pc := 11) (tgt := 16) dX7_handOver_11 (by decide) (fun c => ?_) (fun c => ?_)
    · replace Q := Q.1 c
      refine z_aload_n (pc := 16) (n := 0) dX7_handOver_16 rfl rfl ?_
      refine z_getR (pc := 17) (q2 := 129) zo_Model rfl inT7 (i := 0) (by decide) wf_X7_7 rfl (fun _ _ => rfl) dX7_handOver_17 ?_
      refine z_bipush (pc := 20) (a := 126) dX7_handOver_20 rfl ?_
      refine z_iload_n (pc := 22) (n := 1) dX7_handOver_22 rfl rfl ?_
      refine z_iadd (pc := 23) dX7_handOver_23 ?_
      obtain ⟨c1, c2, Q⟩ := Q
      refine z_iald (pc := 24) za_ms c1 c2 dX7_handOver_24 ?_
      refine z_top (fun x3 ex3 => ?_)
      replace Q := Q x3 ex3
      refine z_istore_n (pc := 25) (ls' := [(3, _), (0, _), (1, _), (2, _)]) dX7_handOver_25 rfl (by decide) rfl ?_
      refine z_aload_n (pc := 26) (n := 1) dX7_handOver_26 rfl rfl ?_
      refine z_iload_n (pc := 27) (n := 2) dX7_handOver_27 rfl rfl ?_
      obtain ⟨d4, P5, e8, s9, Q⟩ := Q
      refine z_callV (pc := 28) (M := mX7_loansOf) (as := [_]) (st := []) s9 zo_Model rfl wi_X7_loansOf wm_X7_loansOf ⟨by omega, by decide⟩ wl_X7_145 dX7_handOver_28 rfl (Nat.le_of_ble_eq_true rfl) rfl ?_
      intro r6 h7 s9
      obtain ⟨x10, rfl, Q⟩ := Q _ _ s9
      refine z_if_gt (pc := 31) (tgt := 48) dX7_handOver_31 (by decide) (fun c => ?_) (fun c => ?_)
      · replace Q := Q.1 c
        refine z_bipush (pc := 48) (a := -4) dX7_handOver_48 rfl ?_
        exact z_iret (pc := 50) rfl dX7_handOver_50 Q
      · replace Q := Q.2 c
        refine z_aload_n (pc := 34) (n := 1) dX7_handOver_34 rfl rfl ?_
        refine z_getR (pc := 35) (q2 := 129) zo_Model rfl inT7 (i := 0) (by decide) wf_X7_7 rfl (fun _ _ => rfl) dX7_handOver_35 ?_
        refine z_iload_n (pc := 38) (n := 0) dX7_handOver_38 rfl rfl ?_
        refine z_iload_n (pc := 39) (n := 2) dX7_handOver_39 rfl rfl ?_
        obtain ⟨c11, Q⟩ := Q
        obtain ⟨c12, Q⟩ := Q
        refine z_callS (pc := 40) (M := mX7_holds) (as := [_, _]) (st := [_]) (c_X7_holds c11 c12) wt_X7_holds wm_X7_holds ⟨by omega, by decide⟩ wl_X7_72 dX7_handOver_40 rfl (Nat.le_of_ble_eq_true rfl) rfl ?_
        rintro _ _ ⟨rfl, rfl⟩
        obtain ⟨c13, c14, Q⟩ := Q
        refine z_iald (pc := 43) za_ms c13 c14 dX7_handOver_43 ?_
        refine z_iconst (pc := 44) (a := 1) dX7_handOver_44 rfl ?_
        refine z_icmp_ne (pc := 45) (tgt := 51) dX7_handOver_45 (by decide) (fun c => ?_) (fun c => ?_)
        · replace Q := Q.1 c
          refine z_iload_n (pc := 51) (n := 0) dX7_handOver_51 rfl rfl ?_
          refine z_iload_n (pc := 52) (n := 3) dX7_handOver_52 rfl rfl ?_
          refine z_icmp_ne (pc := 53) (tgt := 59) dX7_handOver_53 (by decide) (fun c => ?_) (fun c => ?_)
          · replace Q := Q.1 c
            refine z_aload_n (pc := 59) (n := 1) dX7_handOver_59 rfl rfl ?_
            obtain ⟨d15, P16, e19, s20, Q⟩ := Q
            refine z_callV (pc := 60) (M := mX7_know) (as := []) (st := []) s20 zo_Model rfl wi_X7_know wm_X7_know ⟨by omega, by decide⟩ wl_X7_114 dX7_handOver_60 rfl (Nat.le_of_ble_eq_true rfl) rfl ?_
            intro r17 h18 s20
            obtain ⟨rfl, Q⟩ := Q _ _ s20
            refine z_aload_n (pc := 63) (n := 1) dX7_handOver_63 rfl rfl ?_
            refine z_getR (pc := 64) (q2 := 129) zo_Model rfl inT7 (i := 0) (by decide) wf_X7_7 rfl (fun _ _ => rfl) dX7_handOver_64 ?_
            refine z_bipush (pc := 67) (a := 126) dX7_handOver_67 rfl ?_
            refine z_iload_n (pc := 69) (n := 2) dX7_handOver_69 rfl rfl ?_
            refine z_iadd (pc := 70) dX7_handOver_70 ?_
            refine z_iload_n (pc := 71) (n := 3) dX7_handOver_71 rfl rfl ?_
            obtain ⟨c21, c22, Q⟩ := Q
            refine z_iast (pc := 72) za_ms c21 c22 dX7_handOver_72 ?_
            refine z_heap (fun h23 eh23 => ?_)
            replace Q := Q h23 eh23
            refine z_aload_n (pc := 73) (n := 1) dX7_handOver_73 rfl rfl ?_
            refine z_getR (pc := 74) (q2 := 129) zo_Model rfl inT7 (i := 0) (by decide) wf_X7_7 rfl (fun _ _ => rfl) dX7_handOver_74 ?_
            refine z_iload_n (pc := 77) (n := 0) dX7_handOver_77 rfl rfl ?_
            refine z_iload_n (pc := 78) (n := 2) dX7_handOver_78 rfl rfl ?_
            obtain ⟨c24, Q⟩ := Q
            obtain ⟨c25, Q⟩ := Q
            refine z_callS (pc := 79) (M := mX7_held) (as := [_, _]) (st := [_]) (c_X7_held c24 c25) wt_X7_held wm_X7_held ⟨by omega, by decide⟩ wl_X7_51 dX7_handOver_79 rfl (Nat.le_of_ble_eq_true rfl) rfl ?_
            rintro _ _ ⟨rfl, rfl⟩
            refine z_iconst (pc := 82) (a := 0) dX7_handOver_82 rfl ?_
            obtain ⟨c26, c27, Q⟩ := Q
            refine z_iast (pc := 83) za_ms c26 c27 dX7_handOver_83 ?_
            refine z_heap (fun h28 eh28 => ?_)
            replace Q := Q h28 eh28
            refine z_aload_n (pc := 84) (n := 1) dX7_handOver_84 rfl rfl ?_
            refine z_getR (pc := 85) (q2 := 129) zo_Model rfl inT7 (i := 0) (by decide) wf_X7_7 rfl (fun _ _ => rfl) dX7_handOver_85 ?_
            refine z_iload_n (pc := 88) (n := 3) dX7_handOver_88 rfl rfl ?_
            refine z_iload_n (pc := 89) (n := 2) dX7_handOver_89 rfl rfl ?_
            obtain ⟨c29, Q⟩ := Q
            obtain ⟨c30, Q⟩ := Q
            refine z_callS (pc := 90) (M := mX7_held) (as := [_, _]) (st := [_]) (c_X7_held c29 c30) wt_X7_held wm_X7_held ⟨by omega, by decide⟩ wl_X7_51 dX7_handOver_90 rfl (Nat.le_of_ble_eq_true rfl) rfl ?_
            rintro _ _ ⟨rfl, rfl⟩
            refine z_bipush (pc := 93) (a := 64) dX7_handOver_93 rfl ?_
            obtain ⟨c31, c32, Q⟩ := Q
            refine z_iast (pc := 95) za_ms c31 c32 dX7_handOver_95 ?_
            refine z_heap (fun h33 eh33 => ?_)
            replace Q := Q h33 eh33
            refine z_iload_n (pc := 96) (n := 0) dX7_handOver_96 rfl rfl ?_
            exact z_iret (pc := 97) rfl dX7_handOver_97 Q
          · replace Q := Q.2 c
            refine z_bipush (pc := 56) (a := -5) dX7_handOver_56 rfl ?_
            exact z_iret (pc := 58) rfl dX7_handOver_58 Q
        · replace Q := Q.2 c
          refine z_bipush (pc := 48) (a := -4) dX7_handOver_48 rfl ?_
          exact z_iret (pc := 50) rfl dX7_handOver_50 Q
    · replace Q := Q.2 c
      refine z_iconst (pc := 14) (a := -1) dX7_handOver_14 rfl ?_
      exact z_iret (pc := 15) rfl dX7_handOver_15 Q
set_option maxHeartbeats 4000000 in
set_option maxRecDepth 100000 in
theorem k_X7_hold_0 {d : Nat} {Post : Option zA → zH → Prop} {Γ : zCx} {h : zH} {a1 : Int} {a2 : Int} {a3 : Int}  (hd : 4 ≤ d) (Q :
 (((0 ≤ a1 ∧ a1 ≤ 5) ∧ 0 ≤ a2 ∧ a2 ≤ 5 →
  ((a3 = 0 →
   zV RX7 cX7_hold 4 (some .int) d Post Γ 30 [(0, zR 128), (1, zI a1), (2, zI a2), (3, zI a3)] [] h) ∧
  (¬ a3 = 0 →
   (0 ≤ a1 ∧ a1 ≤ 5) ∧
   (0 ≤ a2 ∧ a2 ≤ 5) ∧
   0 ≤ (6 * a2 + a1) ∧ (6 * a2 + a1) < 336 ∧
   ((¬ (h 129 (6 * a2 + a1).toNat) = 0 →
    zV RX7 cX7_hold 4 (some .int) d Post Γ 30 [(0, zR 128), (1, zI a1), (2, zI a2), (3, zI a3)] [] h) ∧
   ((h 129 (6 * a2 + a1).toNat) = 0 →
    Post (some (zI (-4))) h))))) ∧
 (¬ ((0 ≤ a1 ∧ a1 ≤ 5) ∧ 0 ≤ a2 ∧ a2 ≤ 5) →
  Post (some (zI (-1))) h))) :
    zV RX7 cX7_hold 4 (some .int) d Post Γ 0 [(0, zR 128), (1, zI a1), (2, zI a2), (3, zI a3)] [] h := by
  refine z_iload_n (pc := 0) (n := 1) dX7_hold_0 rfl rfl ?_
  refine z_iload_n (pc := 1) (n := 2) dX7_hold_1 rfl rfl ?_
  refine z_callS (pc := 2) (M := mX7_areBoth) (as := [_, _]) (st := []) c_X7_areBoth wt_X7_areBoth wm_X7_areBoth ⟨by omega, by decide⟩ wl_X7_106 dX7_hold_2 rfl (Nat.le_of_ble_eq_true rfl) rfl ?_
  rintro _ _ ⟨rfl, rfl⟩
  refine z_ifb_ne (pc := 5) (tgt := 10) dX7_hold_5 (by decide) (fun c => ?_) (fun c => ?_)
  · replace Q := Q.1 c
    refine z_iload_n (pc := 10) (n := 3) dX7_hold_10 rfl rfl ?_
    refine z_if_eq (pc := 11) (tgt := 30) dX7_hold_11 (by decide) (fun c => ?_) (fun c => ?_)
    · replace Q := Q.1 c
      exact z_sub (ks := [0, 1, 2, 3]) rfl Q
    · replace Q := Q.2 c
      refine z_aload_n (pc := 14) (n := 0) dX7_hold_14 rfl rfl ?_
      refine z_getR (pc := 15) (q2 := 129) zo_Model rfl inT7 (i := 0) (by decide) wf_X7_7 rfl (fun _ _ => rfl) dX7_hold_15 ?_
      refine z_iload_n (pc := 18) (n := 1) dX7_hold_18 rfl rfl ?_
      refine z_iload_n (pc := 19) (n := 2) dX7_hold_19 rfl rfl ?_
      obtain ⟨c1, Q⟩ := Q
      obtain ⟨c2, Q⟩ := Q
      refine z_callS (pc := 20) (M := mX7_held) (as := [_, _]) (st := [_]) (c_X7_held c1 c2) wt_X7_held wm_X7_held ⟨by omega, by decide⟩ wl_X7_51 dX7_hold_20 rfl (Nat.le_of_ble_eq_true rfl) rfl ?_
      rintro _ _ ⟨rfl, rfl⟩
      obtain ⟨c3, c4, Q⟩ := Q
      refine z_iald (pc := 23) za_ms c3 c4 dX7_hold_23 ?_
      refine z_if_ne (pc := 24) (tgt := 30) dX7_hold_24 (by decide) (fun c => ?_) (fun c => ?_)
      · replace Q := Q.1 c
        exact z_sub (ks := [0, 1, 2, 3]) rfl Q
      · replace Q := Q.2 c
        refine z_bipush (pc := 27) (a := -4) dX7_hold_27 rfl ?_
        exact z_iret (pc := 29) rfl dX7_hold_29 Q
  · replace Q := Q.2 c
    refine z_iconst (pc := 8) (a := -1) dX7_hold_8 rfl ?_
    exact z_iret (pc := 9) rfl dX7_hold_9 Q
set_option maxHeartbeats 4000000 in
set_option maxRecDepth 100000 in
theorem k_X7_hold_30 {d : Nat} {Post : Option zA → zH → Prop} {Γ : zCx} {h : zH} {v1 : Int} {v2 : Int} {v3 : Int}  (hd : 2 ≤ d) (Q :
 (0 ≤ v1 ∧ v1 ≤ 5) ∧
 (0 ≤ v2 ∧ v2 ≤ 5) ∧
 0 ≤ (36 + 6 * v2 + v1) ∧ (36 + 6 * v2 + v1) < 336 ∧
 ((¬ (h 129 (36 + 6 * v2 + v1).toNat) = 1 →
  zV RX7 cX7_hold 4 (some .int) d Post Γ 49 [(0, zR 128), (1, zI v1), (2, zI v2), (3, zI v3)] [zI 0] h) ∧
 ((h 129 (36 + 6 * v2 + v1).toNat) = 1 →
  zV RX7 cX7_hold 4 (some .int) d Post Γ 49 [(0, zR 128), (1, zI v1), (2, zI v2), (3, zI v3)] [zI 1] h))) :
    zV RX7 cX7_hold 4 (some .int) d Post Γ 30 [(0, zR 128), (1, zI v1), (2, zI v2), (3, zI v3)] [] h := by
  refine z_aload_n (pc := 30) (n := 0) dX7_hold_30 rfl rfl ?_
  refine z_getR (pc := 31) (q2 := 129) zo_Model rfl inT7 (i := 0) (by decide) wf_X7_7 rfl (fun _ _ => rfl) dX7_hold_31 ?_
  refine z_iload_n (pc := 34) (n := 1) dX7_hold_34 rfl rfl ?_
  refine z_iload_n (pc := 35) (n := 2) dX7_hold_35 rfl rfl ?_
  obtain ⟨c1, Q⟩ := Q
  obtain ⟨c2, Q⟩ := Q
  refine z_callS (pc := 36) (M := mX7_holds) (as := [_, _]) (st := [_]) (c_X7_holds c1 c2) wt_X7_holds wm_X7_holds ⟨by omega, by decide⟩ wl_X7_72 dX7_hold_36 rfl (Nat.le_of_ble_eq_true rfl) rfl ?_
  rintro _ _ ⟨rfl, rfl⟩
  obtain ⟨c3, c4, Q⟩ := Q
  refine z_iald (pc := 39) za_ms c3 c4 dX7_hold_39 ?_
  refine z_iconst (pc := 40) (a := 1) dX7_hold_40 rfl ?_
  refine z_icmp_ne (pc := 41) (tgt := 48) dX7_hold_41 (by decide) (fun c => ?_) (fun c => ?_)
  · replace Q := Q.1 c
    refine z_iconst (pc := 48) (a := 0) dX7_hold_48 rfl ?_
    exact z_sub (ks := [0, 1, 2, 3]) rfl Q
  · replace Q := Q.2 c
    refine z_iconst (pc := 44) (a := 1) dX7_hold_44 rfl ?_
    refine z_goto (pc := 45) (tgt := 49) dX7_hold_45 (by decide) ?_
    exact z_sub (ks := [0, 1, 2, 3]) rfl Q
set_option maxHeartbeats 4000000 in
set_option maxRecDepth 100000 in
theorem k_X7_hold_49 {d : Nat} {Post : Option zA → zH → Prop} {Γ : zCx} {h : zH} {v1 : Int} {v2 : Int} {v3 : Int} {w0 : Int}  (hd : 2 ≤ d) (Q :
 ((¬ w0 = v3 →
  ∃ (d1 : Nat) (P2 : Option zA → zH → Prop), d1 + 1 ≤ d ∧ zSp d1 mX7_know [zR 128] h P2 ∧ ∀ r3 h4, P2 r3 h4 →
  r3 = none ∧
  (0 ≤ v1 ∧ v1 ≤ 5) ∧
  (0 ≤ v2 ∧ v2 ≤ 5) ∧
  ((v3 = 0 →
   0 ≤ (36 + 6 * v2 + v1) ∧ (36 + 6 * v2 + v1) < 336 ∧
   ∀ h11 : zH, h11 = zu h4 129 (36 + 6 * v2 + v1).toNat 0 →
   0 ≤ (zwr (114 + v2)) ∧ (zwr (114 + v2)) < 336 ∧
   Post (some (zI (h11 129 (zwr (114 + v2)).toNat))) h11) ∧
  (¬ v3 = 0 →
   0 ≤ (36 + 6 * v2 + v1) ∧ (36 + 6 * v2 + v1) < 336 ∧
   ∀ h16 : zH, h16 = zu h4 129 (36 + 6 * v2 + v1).toNat 1 →
   0 ≤ (zwr (114 + v2)) ∧ (zwr (114 + v2)) < 336 ∧
   Post (some (zI (h16 129 (zwr (114 + v2)).toNat))) h16))) ∧
 (w0 = v3 →
  Post (some (zI (-5))) h))) :
    zV RX7 cX7_hold 4 (some .int) d Post Γ 49 [(0, zR 128), (1, zI v1), (2, zI v2), (3, zI v3)] [zI w0] h := by
  refine z_iload_n (pc := 49) (n := 3) dX7_hold_49 rfl rfl ?_
  refine z_icmp_ne (pc := 50) (tgt := 56) dX7_hold_50 (by decide) (fun c => ?_) (fun c => ?_)
  · replace Q := Q.1 c
    refine z_aload_n (pc := 56) (n := 0) dX7_hold_56 rfl rfl ?_
    obtain ⟨d1, P2, e5, s6, Q⟩ := Q
    refine z_callV (pc := 57) (M := mX7_know) (as := []) (st := []) s6 zo_Model rfl wi_X7_know wm_X7_know ⟨by omega, by decide⟩ wl_X7_114 dX7_hold_57 rfl (Nat.le_of_ble_eq_true rfl) rfl ?_
    intro r3 h4 s6
    obtain ⟨rfl, Q⟩ := Q _ _ s6
    refine z_aload_n (pc := 60) (n := 0) dX7_hold_60 rfl rfl ?_
    refine z_getR (pc := 61) (q2 := 129) zo_Model rfl inT7 (i := 0) (by decide) wf_X7_7 rfl (fun _ _ => rfl) dX7_hold_61 ?_
    refine z_iload_n (pc := 64) (n := 1) dX7_hold_64 rfl rfl ?_
    refine z_iload_n (pc := 65) (n := 2) dX7_hold_65 rfl rfl ?_
    obtain ⟨c7, Q⟩ := Q
    obtain ⟨c8, Q⟩ := Q
    refine z_callS (pc := 66) (M := mX7_holds) (as := [_, _]) (st := [_]) (c_X7_holds c7 c8) wt_X7_holds wm_X7_holds ⟨by omega, by decide⟩ wl_X7_72 dX7_hold_66 rfl (Nat.le_of_ble_eq_true rfl) rfl ?_
    rintro _ _ ⟨rfl, rfl⟩
    refine z_iload_n (pc := 69) (n := 3) dX7_hold_69 rfl rfl ?_
    refine z_if_eq (pc := 70) (tgt := 77) dX7_hold_70 (by decide) (fun c => ?_) (fun c => ?_)
    · replace Q := Q.1 c
      refine z_iconst (pc := 77) (a := 0) dX7_hold_77 rfl ?_
      obtain ⟨c9, c10, Q⟩ := Q
      refine z_iast (pc := 78) za_ms c9 c10 dX7_hold_78 ?_
      refine z_heap (fun h11 eh11 => ?_)
      replace Q := Q h11 eh11
      refine z_aload_n (pc := 79) (n := 0) dX7_hold_79 rfl rfl ?_
      refine z_getR (pc := 80) (q2 := 129) zo_Model rfl inT7 (i := 0) (by decide) wf_X7_7 rfl (fun _ _ => rfl) dX7_hold_80 ?_
      refine z_bipush (pc := 83) (a := 114) dX7_hold_83 rfl ?_
      refine z_iload_n (pc := 85) (n := 2) dX7_hold_85 rfl rfl ?_
      refine z_iadd (pc := 86) dX7_hold_86 ?_
      obtain ⟨c12, c13, Q⟩ := Q
      refine z_iald (pc := 87) za_ms c12 c13 dX7_hold_87 ?_
      exact z_iret (pc := 88) rfl dX7_hold_88 Q
    · replace Q := Q.2 c
      refine z_iconst (pc := 73) (a := 1) dX7_hold_73 rfl ?_
      refine z_goto (pc := 74) (tgt := 78) dX7_hold_74 (by decide) ?_
      obtain ⟨c14, c15, Q⟩ := Q
      refine z_iast (pc := 78) za_ms c14 c15 dX7_hold_78 ?_
      refine z_heap (fun h16 eh16 => ?_)
      replace Q := Q h16 eh16
      refine z_aload_n (pc := 79) (n := 0) dX7_hold_79 rfl rfl ?_
      refine z_getR (pc := 80) (q2 := 129) zo_Model rfl inT7 (i := 0) (by decide) wf_X7_7 rfl (fun _ _ => rfl) dX7_hold_80 ?_
      refine z_bipush (pc := 83) (a := 114) dX7_hold_83 rfl ?_
      refine z_iload_n (pc := 85) (n := 2) dX7_hold_85 rfl rfl ?_
      refine z_iadd (pc := 86) dX7_hold_86 ?_
      obtain ⟨c17, c18, Q⟩ := Q
      refine z_iald (pc := 87) za_ms c17 c18 dX7_hold_87 ?_
      exact z_iret (pc := 88) rfl dX7_hold_88 Q
  · replace Q := Q.2 c
    refine z_bipush (pc := 53) (a := -5) dX7_hold_53 rfl ?_
    exact z_iret (pc := 55) rfl dX7_hold_55 Q
set_option maxHeartbeats 4000000 in
set_option maxRecDepth 100000 in
theorem k_X7_isFull_0 {d : Nat} {Post : Option zA → zH → Prop} {Γ : zCx} {h : zH}   (hd : 1 ≤ d) (Q :
 (((h 129 132) = 40 →
  Post (some (zI 1)) h) ∧
 (¬ (h 129 132) = 40 →
  ((¬ (h 129 133) = 1000 →
   Post (some (zI 0)) h) ∧
  ((h 129 133) = 1000 →
   Post (some (zI 1)) h))))) :
    zV RX7 cX7_isFull 1 (some .boolean) d Post Γ 0 [(0, zR 128)] [] h := by
  refine z_aload_n (pc := 0) (n := 0) dX7_isFull_0 rfl rfl ?_
  refine z_getR (pc := 1) (q2 := 129) zo_Model rfl inT7 (i := 0) (by decide) wf_X7_7 rfl (fun _ _ => rfl) dX7_isFull_1 ?_
  refine z_sipush (pc := 4) (a := 132) dX7_isFull_4 rfl ?_
  refine z_iald (pc := 7) za_ms (by decide) (by decide) dX7_isFull_7 ?_
  refine z_bipush (pc := 8) (a := 40) dX7_isFull_8 rfl ?_
  refine z_icmp_eq (pc := 10) (tgt := 27) dX7_isFull_10 (by decide) (fun c => ?_) (fun c => ?_)
  · replace Q := Q.1 c
    refine z_iconst (pc := 27) (a := 1) dX7_isFull_27 rfl ?_
    refine z_goto (pc := 28) (tgt := 32) dX7_isFull_28 (by decide) ?_
    exact z_zret (pc := 32) rfl (by decide) dX7_isFull_32 Q
  · replace Q := Q.2 c
    refine z_aload_n (pc := 13) (n := 0) dX7_isFull_13 rfl rfl ?_
    refine z_getR (pc := 14) (q2 := 129) zo_Model rfl inT7 (i := 0) (by decide) wf_X7_7 rfl (fun _ _ => rfl) dX7_isFull_14 ?_
    refine z_sipush (pc := 17) (a := 133) dX7_isFull_17 rfl ?_
    refine z_iald (pc := 20) za_ms (by decide) (by decide) dX7_isFull_20 ?_
    refine z_sipush (pc := 21) (a := 1000) dX7_isFull_21 rfl ?_
    refine z_icmp_ne (pc := 24) (tgt := 31) dX7_isFull_24 (by decide) (fun c => ?_) (fun c => ?_)
    · replace Q := Q.1 c
      refine z_iconst (pc := 31) (a := 0) dX7_isFull_31 rfl ?_
      exact z_zret (pc := 32) rfl (by decide) dX7_isFull_32 Q
    · replace Q := Q.2 c
      refine z_iconst (pc := 27) (a := 1) dX7_isFull_27 rfl ?_
      refine z_goto (pc := 28) (tgt := 32) dX7_isFull_28 (by decide) ?_
      exact z_zret (pc := 32) rfl (by decide) dX7_isFull_32 Q
set_option maxHeartbeats 4000000 in
set_option maxRecDepth 100000 in
theorem k_X7_isGathering_0 {d : Nat} {Post : Option zA → zH → Prop} {Γ : zCx} {h : zH} {a1 : Int}  (hd : 1 ≤ d) (Q :
 zV RX7 cX7_isGathering 4 (some .boolean) d Post Γ 4 [(0, zR 128), (1, zI a1), (2, zI 0), (3, zI 0)] [] h) :
    zV RX7 cX7_isGathering 4 (some .boolean) d Post Γ 0 [(0, zR 128), (1, zI a1)] [] h := by
  refine z_iconst (pc := 0) (a := 0) dX7_isGathering_0 rfl ?_
  refine z_istore_n (pc := 1) (ls' := [(2, _), (0, _), (1, _)]) dX7_isGathering_1 rfl (by decide) rfl ?_
  refine z_iconst (pc := 2) (a := 0) dX7_isGathering_2 rfl ?_
  refine z_istore_n (pc := 3) (ls' := [(3, _), (2, _), (0, _), (1, _)]) dX7_isGathering_3 rfl (by decide) rfl ?_
  exact z_sub (ks := [2, 3, 1, 0]) rfl Q
set_option maxHeartbeats 4000000 in
set_option maxRecDepth 100000 in
theorem k_X7_isGathering_4 {d : Nat} {Post : Option zA → zH → Prop} {Γ : zCx} {h : zH} {v1 : Int} {v2 : Int} {v3 : Int}  (hd : 1 ≤ d) (Q :
 (((h 128 14) ≤ v3 →
  (v2 = 0 ∨ v2 = 1) ∧
  Post (some (zI v2)) h) ∧
 (¬ (h 128 14) ≤ v3 →
  ((¬ v2 = 0 →
   ∀ x1 : Int, x1 = zwr (v3 + 1) →
   zV RX7 cX7_isGathering 4 (some .boolean) d Post Γ 4 [(0, zR 128), (1, zI v1), (2, zI 1), (3, zI x1)] [] h) ∧
  (v2 = 0 →
   0 ≤ v3 ∧ v3 < 7 ∧
   ((¬ (h 135 v3.toNat) = v1 →
    ∀ x4 : Int, x4 = zwr (v3 + 1) →
    zV RX7 cX7_isGathering 4 (some .boolean) d Post Γ 4 [(0, zR 128), (1, zI v1), (2, zI 0), (3, zI x4)] [] h) ∧
   ((h 135 v3.toNat) = v1 →
    ∀ x5 : Int, x5 = zwr (v3 + 1) →
    zV RX7 cX7_isGathering 4 (some .boolean) d Post Γ 4 [(0, zR 128), (1, zI v1), (2, zI 1), (3, zI x5)] [] h))))))) :
    zV RX7 cX7_isGathering 4 (some .boolean) d Post Γ 4 [(0, zR 128), (1, zI v1), (2, zI v2), (3, zI v3)] [] h := by
  refine z_iload_n (pc := 4) (n := 3) dX7_isGathering_4 rfl rfl ?_
  refine z_aload_n (pc := 5) (n := 0) dX7_isGathering_5 rfl rfl ?_
  refine z_getI (pc := 6) zo_Model rfl inT7 (i := 14) (by decide) wf_X7_75 rfl (fun _ _ => rfl) dX7_isGathering_6 ?_
  refine z_icmp_ge (pc := 9) (tgt := 38) dX7_isGathering_9 (by decide) (fun c => ?_) (fun c => ?_)
  · replace Q := Q.1 c
    refine z_iload_n (pc := 38) (n := 2) dX7_isGathering_38 rfl rfl ?_
    exact z_zret (pc := 39) rfl Q.1 dX7_isGathering_39 Q.2
  · replace Q := Q.2 c
    refine z_iload_n (pc := 12) (n := 2) dX7_isGathering_12 rfl rfl ?_
    refine z_if_ne (pc := 13) (tgt := 26) dX7_isGathering_13 (by decide) (fun c => ?_) (fun c => ?_)
    · replace Q := Q.1 c
      refine z_iconst (pc := 26) (a := 1) dX7_isGathering_26 rfl ?_
      refine z_goto (pc := 27) (tgt := 31) dX7_isGathering_27 (by decide) ?_
      refine z_istore_n (pc := 31) (ls' := [(2, _), (0, _), (1, _), (3, _)]) dX7_isGathering_31 rfl (by decide) rfl ?_
      refine z_iincg (pc := 32) (n := 3) (lf := fun y => [(3, zI y), (2, _), (0, _), (1, _)]) dX7_isGathering_32 rfl (by decide) (fun _ => rfl) (fun x1 ex1 => ?_)
      replace Q := Q x1 ex1
      refine z_goto (pc := 35) (tgt := 4) dX7_isGathering_35 (by decide) ?_
      exact z_sub (ks := [2, 3, 1, 0]) rfl Q
    · replace Q := Q.2 c
      refine z_aload_n (pc := 16) (n := 0) dX7_isGathering_16 rfl rfl ?_
      refine z_getR (pc := 17) (q2 := 135) zo_Model rfl inT7 (i := 11) (by decide) wf_X7_35 rfl (fun _ _ => rfl) dX7_isGathering_17 ?_
      refine z_iload_n (pc := 20) (n := 3) dX7_isGathering_20 rfl rfl ?_
      obtain ⟨c2, c3, Q⟩ := Q
      refine z_iald (pc := 21) za_magents c2 c3 dX7_isGathering_21 ?_
      refine z_iload_n (pc := 22) (n := 1) dX7_isGathering_22 rfl rfl ?_
      refine z_icmp_ne (pc := 23) (tgt := 30) dX7_isGathering_23 (by decide) (fun c => ?_) (fun c => ?_)
      · replace Q := Q.1 c
        refine z_iconst (pc := 30) (a := 0) dX7_isGathering_30 rfl ?_
        refine z_istore_n (pc := 31) (ls' := [(2, _), (0, _), (1, _), (3, _)]) dX7_isGathering_31 rfl (by decide) rfl ?_
        refine z_iincg (pc := 32) (n := 3) (lf := fun y => [(3, zI y), (2, _), (0, _), (1, _)]) dX7_isGathering_32 rfl (by decide) (fun _ => rfl) (fun x4 ex4 => ?_)
        replace Q := Q x4 ex4
        refine z_goto (pc := 35) (tgt := 4) dX7_isGathering_35 (by decide) ?_
        exact z_sub (ks := [2, 3, 1, 0]) rfl Q
      · replace Q := Q.2 c
        refine z_iconst (pc := 26) (a := 1) dX7_isGathering_26 rfl ?_
        refine z_goto (pc := 27) (tgt := 31) dX7_isGathering_27 (by decide) ?_
        refine z_istore_n (pc := 31) (ls' := [(2, _), (0, _), (1, _), (3, _)]) dX7_isGathering_31 rfl (by decide) rfl ?_
        refine z_iincg (pc := 32) (n := 3) (lf := fun y => [(3, zI y), (2, _), (0, _), (1, _)]) dX7_isGathering_32 rfl (by decide) (fun _ => rfl) (fun x5 ex5 => ?_)
        replace Q := Q x5 ex5
        refine z_goto (pc := 35) (tgt := 4) dX7_isGathering_35 (by decide) ?_
        exact z_sub (ks := [2, 3, 1, 0]) rfl Q
set_option maxHeartbeats 4000000 in
set_option maxRecDepth 100000 in
theorem k_X7_keep_0 {d : Nat} {Post : Option zA → zH → Prop} {Γ : zCx} {h : zH}   (hd : 1 ≤ d) (Q :
 zV RX7 cX7_keep 2 (some .int) d Post Γ 2 [(0, zR 128), (1, zI 0)] [] h) :
    zV RX7 cX7_keep 2 (some .int) d Post Γ 0 [(0, zR 128)] [] h := by
  refine z_iconst (pc := 0) (a := 0) dX7_keep_0 rfl ?_
  refine z_istore_n (pc := 1) (ls' := [(1, _), (0, _)]) dX7_keep_1 rfl (by decide) rfl ?_
  exact z_sub (ks := [1, 0]) rfl Q
set_option maxHeartbeats 4000000 in
set_option maxRecDepth 100000 in
theorem k_X7_keep_2 {d : Nat} {Post : Option zA → zH → Prop} {Γ : zCx} {h : zH} {v1 : Int}  (hd : 1 ≤ d) (Q :
 ((336 ≤ v1 →
  ∀ h1 : zH, h1 = zu h 128 6 1 →
  Post (some (zI (h1 129 132))) h1) ∧
 (¬ 336 ≤ v1 →
  0 ≤ v1 ∧ v1 < 336 ∧
  0 ≤ v1 ∧ v1 < 336 ∧
  ∀ h6 : zH, h6 = zu h 133 v1.toNat (h 129 v1.toNat) →
  ∀ x7 : Int, x7 = zwr (v1 + 1) →
  zV RX7 cX7_keep 2 (some .int) d Post Γ 2 [(0, zR 128), (1, zI x7)] [] h6))) :
    zV RX7 cX7_keep 2 (some .int) d Post Γ 2 [(0, zR 128), (1, zI v1)] [] h := by
  refine z_iload_n (pc := 2) (n := 1) dX7_keep_2 rfl rfl ?_
  refine z_sipush (pc := 3) (a := 336) dX7_keep_3 rfl ?_
  refine z_icmp_ge (pc := 6) (tgt := 27) dX7_keep_6 (by decide) (fun c => ?_) (fun c => ?_)
  · replace Q := Q.1 c
    refine z_aload_n (pc := 27) (n := 0) dX7_keep_27 rfl rfl ?_
    refine z_iconst (pc := 28) (a := 1) dX7_keep_28 rfl ?_
    refine z_putZ (pc := 29) zo_Model rfl inT7 (i := 6) (by decide) wf_X7_181 rfl tyX7 tyX7_ok nmX7 rfl (fun _ _ => Nat.le_of_ble_eq_true rfl) (fun _ _ _ => rfl) (by decide) rfl dX7_keep_29 ?_
    refine z_heap (fun h1 eh1 => ?_)
    replace Q := Q h1 eh1
    refine z_aload_n (pc := 32) (n := 0) dX7_keep_32 rfl rfl ?_
    refine z_getR (pc := 33) (q2 := 129) zo_Model rfl inT7 (i := 0) (by decide) wf_X7_7 rfl (fun _ _ => rfl) dX7_keep_33 ?_
    refine z_sipush (pc := 36) (a := 132) dX7_keep_36 rfl ?_
    refine z_iald (pc := 39) za_ms (by decide) (by decide) dX7_keep_39 ?_
    exact z_iret (pc := 40) rfl dX7_keep_40 Q
  · replace Q := Q.2 c
    refine z_aload_n (pc := 9) (n := 0) dX7_keep_9 rfl rfl ?_
    refine z_getR (pc := 10) (q2 := 133) zo_Model rfl inT7 (i := 5) (by decide) wf_X7_22 rfl (fun _ _ => rfl) dX7_keep_10 ?_
    refine z_iload_n (pc := 13) (n := 1) dX7_keep_13 rfl rfl ?_
    refine z_aload_n (pc := 14) (n := 0) dX7_keep_14 rfl rfl ?_
    refine z_getR (pc := 15) (q2 := 129) zo_Model rfl inT7 (i := 0) (by decide) wf_X7_7 rfl (fun _ _ => rfl) dX7_keep_15 ?_
    refine z_iload_n (pc := 18) (n := 1) dX7_keep_18 rfl rfl ?_
    obtain ⟨c2, c3, Q⟩ := Q
    refine z_iald (pc := 19) za_ms c2 c3 dX7_keep_19 ?_
    obtain ⟨c4, c5, Q⟩ := Q
    refine z_iast (pc := 20) za_mkept c4 c5 dX7_keep_20 ?_
    refine z_heap (fun h6 eh6 => ?_)
    replace Q := Q h6 eh6
    refine z_iincg (pc := 21) (n := 1) (lf := fun y => [(1, zI y), (0, _)]) dX7_keep_21 rfl (by decide) (fun _ => rfl) (fun x7 ex7 => ?_)
    replace Q := Q x7 ex7
    refine z_goto (pc := 24) (tgt := 2) dX7_keep_24 (by decide) ?_
    exact z_sub (ks := [1, 0]) rfl Q
set_option maxHeartbeats 4000000 in
set_option maxRecDepth 100000 in
theorem k_X7_know_0 {d : Nat} {Post : Option zA → zH → Prop} {Γ : zCx} {h : zH}   (hd : 1 ≤ d) (Q :
 ((¬ (h 128 4) = 4 →
  zV RX7 cX7_know 2 none d Post Γ 51 [(0, zR 128), (1, zI 0)] [] h) ∧
 ((h 128 4) = 4 →
  zV RX7 cX7_know 2 none d Post Γ 10 [(0, zR 128), (1, zI 0)] [] h))) :
    zV RX7 cX7_know 2 none d Post Γ 0 [(0, zR 128)] [] h := by
  refine z_aload_n (pc := 0) (n := 0) dX7_know_0 rfl rfl ?_
  refine z_getI (pc := 1) zo_Model rfl inT7 (i := 4) (by decide) wf_X7_66 rfl (fun _ _ => rfl) dX7_know_1 ?_
  refine z_iconst (pc := 4) (a := 4) dX7_know_4 rfl ?_
  refine z_icmp_ne (pc := 5) (tgt := 49) dX7_know_5 (by decide) (fun c => ?_) (fun c => ?_)
  · replace Q := Q.1 c
    refine z_iconst (pc := 49) (a := 0) dX7_know_49 rfl ?_
    refine z_istore_n (pc := 50) (ls' := [(1, _), (0, _)]) dX7_know_50 rfl (by decide) rfl ?_
    exact z_sub (ks := [1, 0]) rfl Q
  · replace Q := Q.2 c
    refine z_iconst (pc := 8) (a := 0) dX7_know_8 rfl ?_
    refine z_istore_n (pc := 9) (ls' := [(1, _), (0, _)]) dX7_know_9 rfl (by decide) rfl ?_
    exact z_sub (ks := [1, 0]) rfl Q
set_option maxHeartbeats 4000000 in
set_option maxRecDepth 100000 in
theorem k_X7_know_10 {d : Nat} {Post : Option zA → zH → Prop} {Γ : zCx} {h : zH} {v1 : Int}  (hd : 1 ≤ d) (Q :
 ((1008 ≤ v1 →
  ∀ h1 : zH, h1 = zu h 128 4 (zwr ((h 128 4) - 1)) →
  zV RX7 cX7_know 2 none d Post Γ 51 [(0, zR 128), (1, zI 0)] [] h1) ∧
 (¬ 1008 ≤ v1 →
  0 ≤ (zwr (336 + v1)) ∧ (zwr (336 + v1)) < 1344 ∧
  0 ≤ v1 ∧ v1 < 1344 ∧
  ∀ h6 : zH, h6 = zu h 132 v1.toNat (h 132 (zwr (336 + v1)).toNat) →
  ∀ x7 : Int, x7 = zwr (v1 + 1) →
  zV RX7 cX7_know 2 none d Post Γ 10 [(0, zR 128), (1, zI x7)] [] h6))) :
    zV RX7 cX7_know 2 none d Post Γ 10 [(0, zR 128), (1, zI v1)] [] h := by
  refine z_iload_n (pc := 10) (n := 1) dX7_know_10 rfl rfl ?_
  refine z_sipush (pc := 11) (a := 1008) dX7_know_11 rfl ?_
  refine z_icmp_ge (pc := 14) (tgt := 39) dX7_know_14 (by decide) (fun c => ?_) (fun c => ?_)
  · replace Q := Q.1 c
    refine z_aload_n (pc := 39) (n := 0) dX7_know_39 rfl rfl ?_
    refine z_dup (pc := 40) dX7_know_40 rfl ?_
    refine z_getI (pc := 41) zo_Model rfl inT7 (i := 4) (by decide) wf_X7_66 rfl (fun _ _ => rfl) dX7_know_41 ?_
    refine z_iconst (pc := 44) (a := 1) dX7_know_44 rfl ?_
    refine z_isub (pc := 45) dX7_know_45 ?_
    refine z_putI (pc := 46) zo_Model rfl inT7 (i := 4) (by decide) wf_X7_66 rfl tyX7 tyX7_ok nmX7 rfl (fun _ _ => Nat.le_of_ble_eq_true rfl) (fun _ _ _ => rfl) rfl dX7_know_46 ?_
    refine z_heap (fun h1 eh1 => ?_)
    replace Q := Q h1 eh1
    refine z_iconst (pc := 49) (a := 0) dX7_know_49 rfl ?_
    refine z_istore_n (pc := 50) (ls' := [(1, _), (0, _)]) dX7_know_50 rfl (by decide) rfl ?_
    exact z_sub (ks := [1, 0]) rfl Q
  · replace Q := Q.2 c
    refine z_aload_n (pc := 17) (n := 0) dX7_know_17 rfl rfl ?_
    refine z_getR (pc := 18) (q2 := 132) zo_Model rfl inT7 (i := 3) (by decide) wf_X7_19 rfl (fun _ _ => rfl) dX7_know_18 ?_
    refine z_iload_n (pc := 21) (n := 1) dX7_know_21 rfl rfl ?_
    refine z_aload_n (pc := 22) (n := 0) dX7_know_22 rfl rfl ?_
    refine z_getR (pc := 23) (q2 := 132) zo_Model rfl inT7 (i := 3) (by decide) wf_X7_19 rfl (fun _ _ => rfl) dX7_know_23 ?_
    refine z_sipush (pc := 26) (a := 336) dX7_know_26 rfl ?_
    refine z_iload_n (pc := 29) (n := 1) dX7_know_29 rfl rfl ?_
    refine z_iadd (pc := 30) dX7_know_30 ?_
    obtain ⟨c2, c3, Q⟩ := Q
    refine z_iald (pc := 31) za_mbefore c2 c3 dX7_know_31 ?_
    obtain ⟨c4, c5, Q⟩ := Q
    refine z_iast (pc := 32) za_mbefore c4 c5 dX7_know_32 ?_
    refine z_heap (fun h6 eh6 => ?_)
    replace Q := Q h6 eh6
    refine z_iincg (pc := 33) (n := 1) (lf := fun y => [(1, zI y), (0, _)]) dX7_know_33 rfl (by decide) (fun _ => rfl) (fun x7 ex7 => ?_)
    replace Q := Q x7 ex7
    refine z_goto (pc := 36) (tgt := 10) dX7_know_36 (by decide) ?_
    exact z_sub (ks := [1, 0]) rfl Q
set_option maxHeartbeats 4000000 in
set_option maxRecDepth 100000 in
theorem k_X7_know_51 {d : Nat} {Post : Option zA → zH → Prop} {Γ : zCx} {h : zH} {v1 : Int}  (hd : 1 ≤ d) (Q :
 ((336 ≤ v1 →
  ∀ h1 : zH, h1 = zu h 128 4 (zwr ((h 128 4) + 1)) →
  Post none h1) ∧
 (¬ 336 ≤ v1 →
  0 ≤ v1 ∧ v1 < 336 ∧
  0 ≤ (zwr ((zwr (336 * (h 128 4))) + v1)) ∧ (zwr ((zwr (336 * (h 128 4))) + v1)) < 1344 ∧
  ∀ h6 : zH, h6 = zu h 132 (zwr ((zwr (336 * (h 128 4))) + v1)).toNat (h 129 v1.toNat) →
  ∀ x7 : Int, x7 = zwr (v1 + 1) →
  zV RX7 cX7_know 2 none d Post Γ 51 [(0, zR 128), (1, zI x7)] [] h6))) :
    zV RX7 cX7_know 2 none d Post Γ 51 [(0, zR 128), (1, zI v1)] [] h := by
  refine z_iload_n (pc := 51) (n := 1) dX7_know_51 rfl rfl ?_
  refine z_sipush (pc := 52) (a := 336) dX7_know_52 rfl ?_
  refine z_icmp_ge (pc := 55) (tgt := 85) dX7_know_55 (by decide) (fun c => ?_) (fun c => ?_)
  · replace Q := Q.1 c
    refine z_aload_n (pc := 85) (n := 0) dX7_know_85 rfl rfl ?_
    refine z_dup (pc := 86) dX7_know_86 rfl ?_
    refine z_getI (pc := 87) zo_Model rfl inT7 (i := 4) (by decide) wf_X7_66 rfl (fun _ _ => rfl) dX7_know_87 ?_
    refine z_iconst (pc := 90) (a := 1) dX7_know_90 rfl ?_
    refine z_iadd (pc := 91) dX7_know_91 ?_
    refine z_putI (pc := 92) zo_Model rfl inT7 (i := 4) (by decide) wf_X7_66 rfl tyX7 tyX7_ok nmX7 rfl (fun _ _ => Nat.le_of_ble_eq_true rfl) (fun _ _ _ => rfl) rfl dX7_know_92 ?_
    refine z_heap (fun h1 eh1 => ?_)
    replace Q := Q h1 eh1
    exact z_vret (pc := 95) rfl dX7_know_95 Q
  · replace Q := Q.2 c
    refine z_aload_n (pc := 58) (n := 0) dX7_know_58 rfl rfl ?_
    refine z_getR (pc := 59) (q2 := 132) zo_Model rfl inT7 (i := 3) (by decide) wf_X7_19 rfl (fun _ _ => rfl) dX7_know_59 ?_
    refine z_sipush (pc := 62) (a := 336) dX7_know_62 rfl ?_
    refine z_aload_n (pc := 65) (n := 0) dX7_know_65 rfl rfl ?_
    refine z_getI (pc := 66) zo_Model rfl inT7 (i := 4) (by decide) wf_X7_66 rfl (fun _ _ => rfl) dX7_know_66 ?_
    refine z_imul (pc := 69) dX7_know_69 ?_
    refine z_iload_n (pc := 70) (n := 1) dX7_know_70 rfl rfl ?_
    refine z_iadd (pc := 71) dX7_know_71 ?_
    refine z_aload_n (pc := 72) (n := 0) dX7_know_72 rfl rfl ?_
    refine z_getR (pc := 73) (q2 := 129) zo_Model rfl inT7 (i := 0) (by decide) wf_X7_7 rfl (fun _ _ => rfl) dX7_know_73 ?_
    refine z_iload_n (pc := 76) (n := 1) dX7_know_76 rfl rfl ?_
    obtain ⟨c2, c3, Q⟩ := Q
    refine z_iald (pc := 77) za_ms c2 c3 dX7_know_77 ?_
    obtain ⟨c4, c5, Q⟩ := Q
    refine z_iast (pc := 78) za_mbefore c4 c5 dX7_know_78 ?_
    refine z_heap (fun h6 eh6 => ?_)
    replace Q := Q h6 eh6
    refine z_iincg (pc := 79) (n := 1) (lf := fun y => [(1, zI y), (0, _)]) dX7_know_79 rfl (by decide) (fun _ => rfl) (fun x7 ex7 => ?_)
    replace Q := Q x7 ex7
    refine z_goto (pc := 82) (tgt := 51) dX7_know_82 (by decide) ?_
    exact z_sub (ks := [1, 0]) rfl Q
set_option maxHeartbeats 4000000 in
set_option maxRecDepth 100000 in
theorem k_X7_latest_0 {d : Nat} {Post : Option zA → zH → Prop} {Γ : zCx} {h : zH} {a1 : Int} {a2 : Int} {a3 : Int}  (hd : 1 ≤ d) (Q :
 zV RX7 cX7_latest 7 (some .int) d Post Γ 7 [(0, zR 128), (1, zI a1), (2, zI a2), (3, zI a3), (4, zI (-5)), (5, zI 0)] [] h) :
    zV RX7 cX7_latest 7 (some .int) d Post Γ 0 [(0, zR 128), (1, zI a1), (2, zI a2), (3, zI a3)] [] h := by
  refine z_bipush (pc := 0) (a := -5) dX7_latest_0 rfl ?_
  refine z_istore (pc := 2) (ls' := [(4, _), (0, _), (1, _), (2, _), (3, _)]) dX7_latest_2 (by decide) rfl ?_
  refine z_iconst (pc := 4) (a := 0) dX7_latest_4 rfl ?_
  refine z_istore (pc := 5) (ls' := [(5, _), (4, _), (0, _), (1, _), (2, _), (3, _)]) dX7_latest_5 (by decide) rfl ?_
  exact z_sub (ks := [2, 3, 4, 5, 1, 0]) rfl Q
set_option maxHeartbeats 4000000 in
set_option maxRecDepth 100000 in
theorem k_X7_latest_7 {d : Nat} {Post : Option zA → zH → Prop} {Γ : zCx} {h : zH} {v1 : Int} {v2 : Int} {v3 : Int} {v4 : Int} {v5 : Int}  (hd : 2 ≤ d) (Q :
 (((h 129 132) ≤ v5 →
  Post (some (zI v4)) h) ∧
 (¬ (h 129 132) ≤ v5 →
  (-1 ≤ v5 ∧ v5 ≤ 40) ∧
  0 ≤ (136 + 5 * v5 + 1) ∧ (136 + 5 * v5 + 1) < 336 ∧
  ((¬ (h 129 (136 + 5 * v5 + 1).toNat) = v1 →
   ∀ x4 : Int, x4 = zwr (v5 + 1) →
   zV RX7 cX7_latest 7 (some .int) d Post Γ 7 [(0, zR 128), (1, zI v1), (2, zI v2), (3, zI v3), (4, zI v4), (5, zI x4)] [] h) ∧
  ((h 129 (136 + 5 * v5 + 1).toNat) = v1 →
   (-1 ≤ v5 ∧ v5 ≤ 40) ∧
   0 ≤ (136 + 5 * v5 + 3) ∧ (136 + 5 * v5 + 3) < 336 ∧
   ((¬ (h 129 (136 + 5 * v5 + 3).toNat) = v2 →
    ∀ x8 : Int, x8 = zwr (v5 + 1) →
    zV RX7 cX7_latest 7 (some .int) d Post Γ 7 [(0, zR 128), (1, zI v1), (2, zI v2), (3, zI v3), (4, zI v4), (5, zI x8)] [] h) ∧
   ((h 129 (136 + 5 * v5 + 3).toNat) = v2 →
    (-1 ≤ v5 ∧ v5 ≤ 40) ∧
    0 ≤ (136 + 5 * v5 + 0) ∧ (136 + 5 * v5 + 0) < 336 ∧
    ((v3 ≤ (h 129 (136 + 5 * v5 + 0).toNat) →
     ∀ x12 : Int, x12 = zwr (v5 + 1) →
     zV RX7 cX7_latest 7 (some .int) d Post Γ 7 [(0, zR 128), (1, zI v1), (2, zI v2), (3, zI v3), (4, zI v4), (5, zI x12)] [] h) ∧
    (¬ v3 ≤ (h 129 (136 + 5 * v5 + 0).toNat) →
     ∀ x13 : Int, x13 = zwr (v5 + 1) →
     zV RX7 cX7_latest 7 (some .int) d Post Γ 7 [(0, zR 128), (1, zI v1), (2, zI v2), (3, zI v3), (4, zI v5), (5, zI x13)] [] h))))))))) :
    zV RX7 cX7_latest 7 (some .int) d Post Γ 7 [(0, zR 128), (1, zI v1), (2, zI v2), (3, zI v3), (4, zI v4), (5, zI v5)] [] h := by
  refine z_iload (pc := 7) (n := 5) dX7_latest_7 rfl ?_
  refine z_aload_n (pc := 9) (n := 0) dX7_latest_9 rfl rfl ?_
  refine z_getR (pc := 10) (q2 := 129) zo_Model rfl inT7 (i := 0) (by decide) wf_X7_7 rfl (fun _ _ => rfl) dX7_latest_10 ?_
  refine z_sipush (pc := 13) (a := 132) dX7_latest_13 rfl ?_
  refine z_iald (pc := 16) za_ms (by decide) (by decide) dX7_latest_16 ?_
  refine z_icmp_ge (pc := 17) (tgt := 92) dX7_latest_17 (by decide) (fun c => ?_) (fun c => ?_)
  · replace Q := Q.1 c
    refine z_iload (pc := 92) (n := 4) dX7_latest_92 rfl ?_
    exact z_iret (pc := 94) rfl dX7_latest_94 Q
  · replace Q := Q.2 c
    refine z_aload_n (pc := 20) (n := 0) dX7_latest_20 rfl rfl ?_
    refine z_getR (pc := 21) (q2 := 129) zo_Model rfl inT7 (i := 0) (by decide) wf_X7_7 rfl (fun _ _ => rfl) dX7_latest_21 ?_
    refine z_iload (pc := 24) (n := 5) dX7_latest_24 rfl ?_
    refine z_iconst (pc := 26) (a := 1) dX7_latest_26 rfl ?_
    obtain ⟨c1, Q⟩ := Q
    refine z_callS (pc := 27) (M := mX7_of) (as := [_, _]) (st := [_]) (c_X7_of c1 (by decide)) wt_X7_of wm_X7_of ⟨by omega, by decide⟩ wl_X7_69 dX7_latest_27 rfl (Nat.le_of_ble_eq_true rfl) rfl ?_
    rintro _ _ ⟨rfl, rfl⟩
    obtain ⟨c2, c3, Q⟩ := Q
    refine z_iald (pc := 30) za_ms c2 c3 dX7_latest_30 ?_
    refine z_iload_n (pc := 31) (n := 1) dX7_latest_31 rfl rfl ?_
    refine z_icmp_ne (pc := 32) (tgt := 69) dX7_latest_32 (by decide) (fun c => ?_) (fun c => ?_)
    · replace Q := Q.1 c
      refine z_iconst (pc := 69) (a := 0) dX7_latest_69 rfl ?_
      refine z_istore (pc := 70) (ls' := [(6, _), (0, _), (1, _), (2, _), (3, _), (4, _), (5, _)]) dX7_latest_70 (by decide) rfl ?_
      refine z_iload (pc := 72) (n := 0) dX7_latest_72 rfl ?_
      refine z_if_eq (pc := 74) (tgt := 82) dX7_latest_74 (by decide) (fun c => ?_) (fun c => absurd c (by decide))
      refine z_iload (pc := 82) (n := 5) dX7_latest_82 rfl ?_
      refine z_istore (pc := 84) (ls' := [(4, _), (6, _), (0, _), (1, _), (2, _), (3, _), (5, _)]) dX7_latest_84 (by decide) rfl ?_
      refine z_iincg (pc := 86) (n := 6) (lf := fun y => [(5, zI y), (4, _), (6, _), (0, _), (1, _), (2, _), (3, _)]) dX7_latest_86 rfl (by decide) (fun _ => rfl) (fun x4 ex4 => ?_)
      replace Q := Q x4 ex4
      refine z_goto (pc := 89) (tgt := 7) dX7_latest_89 (by decide) ?_
      exact z_sub (ks := [3, 4, 5, 6, 1, 0]) rfl Q
    · replace Q := Q.2 c
      refine z_aload_n (pc := 35) (n := 0) dX7_latest_35 rfl rfl ?_
      refine z_getR (pc := 36) (q2 := 129) zo_Model rfl inT7 (i := 0) (by decide) wf_X7_7 rfl (fun _ _ => rfl) dX7_latest_36 ?_
      refine z_iload (pc := 39) (n := 5) dX7_latest_39 rfl ?_
      refine z_iconst (pc := 41) (a := 3) dX7_latest_41 rfl ?_
      obtain ⟨c5, Q⟩ := Q
      refine z_callS (pc := 42) (M := mX7_of) (as := [_, _]) (st := [_]) (c_X7_of c5 (by decide)) wt_X7_of wm_X7_of ⟨by omega, by decide⟩ wl_X7_69 dX7_latest_42 rfl (Nat.le_of_ble_eq_true rfl) rfl ?_
      rintro _ _ ⟨rfl, rfl⟩
      obtain ⟨c6, c7, Q⟩ := Q
      refine z_iald (pc := 45) za_ms c6 c7 dX7_latest_45 ?_
      refine z_iload_n (pc := 46) (n := 2) dX7_latest_46 rfl rfl ?_
      refine z_icmp_ne (pc := 47) (tgt := 69) dX7_latest_47 (by decide) (fun c => ?_) (fun c => ?_)
      · replace Q := Q.1 c
        refine z_iconst (pc := 69) (a := 0) dX7_latest_69 rfl ?_
        refine z_istore (pc := 70) (ls' := [(6, _), (0, _), (1, _), (2, _), (3, _), (4, _), (5, _)]) dX7_latest_70 (by decide) rfl ?_
        refine z_iload (pc := 72) (n := 0) dX7_latest_72 rfl ?_
        refine z_if_eq (pc := 74) (tgt := 82) dX7_latest_74 (by decide) (fun c => ?_) (fun c => absurd c (by decide))
        refine z_iload (pc := 82) (n := 5) dX7_latest_82 rfl ?_
        refine z_istore (pc := 84) (ls' := [(4, _), (6, _), (0, _), (1, _), (2, _), (3, _), (5, _)]) dX7_latest_84 (by decide) rfl ?_
        refine z_iincg (pc := 86) (n := 6) (lf := fun y => [(5, zI y), (4, _), (6, _), (0, _), (1, _), (2, _), (3, _)]) dX7_latest_86 rfl (by decide) (fun _ => rfl) (fun x8 ex8 => ?_)
        replace Q := Q x8 ex8
        refine z_goto (pc := 89) (tgt := 7) dX7_latest_89 (by decide) ?_
        exact z_sub (ks := [3, 4, 5, 6, 1, 0]) rfl Q
      · replace Q := Q.2 c
        refine z_aload_n (pc := 50) (n := 0) dX7_latest_50 rfl rfl ?_
        refine z_getR (pc := 51) (q2 := 129) zo_Model rfl inT7 (i := 0) (by decide) wf_X7_7 rfl (fun _ _ => rfl) dX7_latest_51 ?_
        refine z_iload (pc := 54) (n := 5) dX7_latest_54 rfl ?_
        refine z_iconst (pc := 56) (a := 0) dX7_latest_56 rfl ?_
        obtain ⟨c9, Q⟩ := Q
        refine z_callS (pc := 57) (M := mX7_of) (as := [_, _]) (st := [_]) (c_X7_of c9 (by decide)) wt_X7_of wm_X7_of ⟨by omega, by decide⟩ wl_X7_69 dX7_latest_57 rfl (Nat.le_of_ble_eq_true rfl) rfl ?_
        rintro _ _ ⟨rfl, rfl⟩
        obtain ⟨c10, c11, Q⟩ := Q
        refine z_iald (pc := 60) za_ms c10 c11 dX7_latest_60 ?_
        refine z_iload_n (pc := 61) (n := 3) dX7_latest_61 rfl rfl ?_
        refine z_icmp_ge (pc := 62) (tgt := 69) dX7_latest_62 (by decide) (fun c => ?_) (fun c => ?_)
        · replace Q := Q.1 c
          refine z_iconst (pc := 69) (a := 0) dX7_latest_69 rfl ?_
          refine z_istore (pc := 70) (ls' := [(6, _), (0, _), (1, _), (2, _), (3, _), (4, _), (5, _)]) dX7_latest_70 (by decide) rfl ?_
          refine z_iload (pc := 72) (n := 0) dX7_latest_72 rfl ?_
          refine z_if_eq (pc := 74) (tgt := 82) dX7_latest_74 (by decide) (fun c => ?_) (fun c => absurd c (by decide))
          refine z_iload (pc := 82) (n := 5) dX7_latest_82 rfl ?_
          refine z_istore (pc := 84) (ls' := [(4, _), (6, _), (0, _), (1, _), (2, _), (3, _), (5, _)]) dX7_latest_84 (by decide) rfl ?_
          refine z_iincg (pc := 86) (n := 6) (lf := fun y => [(5, zI y), (4, _), (6, _), (0, _), (1, _), (2, _), (3, _)]) dX7_latest_86 rfl (by decide) (fun _ => rfl) (fun x12 ex12 => ?_)
          replace Q := Q x12 ex12
          refine z_goto (pc := 89) (tgt := 7) dX7_latest_89 (by decide) ?_
          exact z_sub (ks := [3, 4, 5, 6, 1, 0]) rfl Q
        · replace Q := Q.2 c
          refine z_iconst (pc := 65) (a := 1) dX7_latest_65 rfl ?_
          refine z_goto (pc := 66) (tgt := 70) dX7_latest_66 (by decide) ?_
          refine z_istore (pc := 70) (ls' := [(6, _), (0, _), (1, _), (2, _), (3, _), (4, _), (5, _)]) dX7_latest_70 (by decide) rfl ?_
          refine z_iload (pc := 72) (n := 0) dX7_latest_72 rfl ?_
          refine z_if_eq (pc := 74) (tgt := 82) dX7_latest_74 (by decide) (fun c => absurd c (by decide)) (fun c => ?_)
          refine z_iload (pc := 77) (n := 6) dX7_latest_77 rfl ?_
          refine z_goto (pc := 79) (tgt := 84) dX7_latest_79 (by decide) ?_
          refine z_istore (pc := 84) (ls' := [(4, _), (6, _), (0, _), (1, _), (2, _), (3, _), (5, _)]) dX7_latest_84 (by decide) rfl ?_
          refine z_iincg (pc := 86) (n := 6) (lf := fun y => [(5, zI y), (4, _), (6, _), (0, _), (1, _), (2, _), (3, _)]) dX7_latest_86 rfl (by decide) (fun _ => rfl) (fun x13 ex13 => ?_)
          replace Q := Q x13 ex13
          refine z_goto (pc := 89) (tgt := 7) dX7_latest_89 (by decide) ?_
          exact z_sub (ks := [3, 4, 5, 6, 1, 0]) rfl Q
set_option maxHeartbeats 4000000 in
set_option maxRecDepth 100000 in
theorem k_X7_lend_0 {d : Nat} {Post : Option zA → zH → Prop} {Γ : zCx} {h : zH} {a1 : Int} {a2 : Int} {a3 : Int} {a4 : Int}  (hd : 1 ≤ d) (Q :
 ∃ (d1 : Nat) (P2 : Option zA → zH → Prop), d1 + 1 ≤ d ∧ zSp d1 mX7_lendFault [zR 128, zI a1, zI a2, zI a3, zI a4] h P2 ∧ ∀ r3 h4, P2 r3 h4 →
 ∃ x7 : Int, r3 = some (zI x7) ∧
 ((0 ≤ x7 →
  ∃ (d8 : Nat) (P9 : Option zA → zH → Prop), d8 + 1 ≤ d ∧ zSp d8 mX7_know [zR 128] h4 P9 ∧ ∀ r10 h11, P9 r10 h11 →
  r10 = none ∧
  ∃ (d14 : Nat) (P15 : Option zA → zH → Prop), d14 + 1 ≤ d ∧ zSp d14 mX7_lends [zR 128, zI a1, zI a2, zI a3, zI a4] h11 P15 ∧ ∀ r16 h17, P15 r16 h17 →
  ∃ x20 : Int, r16 = some (zI x20) ∧
  Post (some (zI x20)) h17) ∧
 (¬ 0 ≤ x7 →
  Post (some (zI x7)) h4))) :
    zV RX7 cX7_lend 6 (some .int) d Post Γ 0 [(0, zR 128), (1, zI a1), (2, zI a2), (3, zI a3), (4, zI a4)] [] h := by
  refine z_aload_n (pc := 0) (n := 0) dX7_lend_0 rfl rfl ?_
  refine z_iload_n (pc := 1) (n := 1) dX7_lend_1 rfl rfl ?_
  refine z_iload_n (pc := 2) (n := 2) dX7_lend_2 rfl rfl ?_
  refine z_iload_n (pc := 3) (n := 3) dX7_lend_3 rfl rfl ?_
  refine z_iload (pc := 4) (n := 4) dX7_lend_4 rfl ?_
  obtain ⟨d1, P2, e5, s6, Q⟩ := Q
  refine z_callV (pc := 6) (M := mX7_lendFault) (as := [_, _, _, _]) (st := []) s6 zo_Model rfl wi_X7_lendFault wm_X7_lendFault ⟨by omega, by decide⟩ wl_X7_110 dX7_lend_6 rfl (Nat.le_of_ble_eq_true rfl) rfl ?_
  intro r3 h4 s6
  obtain ⟨x7, rfl, Q⟩ := Q _ _ s6
  refine z_istore (pc := 9) (ls' := [(5, _), (0, _), (1, _), (2, _), (3, _), (4, _)]) dX7_lend_9 (by decide) rfl ?_
  refine z_iload (pc := 11) (n := 0) dX7_lend_11 rfl ?_
  refine z_if_ge (pc := 13) (tgt := 19) dX7_lend_13 (by decide) (fun c => ?_) (fun c => ?_)
  · replace Q := Q.1 c
    refine z_aload_n (pc := 19) (n := 1) dX7_lend_19 rfl rfl ?_
    obtain ⟨d8, P9, e12, s13, Q⟩ := Q
    refine z_callV (pc := 20) (M := mX7_know) (as := []) (st := []) s13 zo_Model rfl wi_X7_know wm_X7_know ⟨by omega, by decide⟩ wl_X7_114 dX7_lend_20 rfl (Nat.le_of_ble_eq_true rfl) rfl ?_
    intro r10 h11 s13
    obtain ⟨rfl, Q⟩ := Q _ _ s13
    refine z_aload_n (pc := 23) (n := 1) dX7_lend_23 rfl rfl ?_
    refine z_iload_n (pc := 24) (n := 2) dX7_lend_24 rfl rfl ?_
    refine z_iload_n (pc := 25) (n := 3) dX7_lend_25 rfl rfl ?_
    refine z_iload_n (pc := 26) (n := 4) dX7_lend_26 rfl rfl ?_
    refine z_iload (pc := 27) (n := 5) dX7_lend_27 rfl ?_
    obtain ⟨d14, P15, e18, s19, Q⟩ := Q
    refine z_callV (pc := 29) (M := mX7_lends) (as := [_, _, _, _]) (st := []) s19 zo_Model rfl wi_X7_lends wm_X7_lends ⟨by omega, by decide⟩ wl_X7_117 dX7_lend_29 rfl (Nat.le_of_ble_eq_true rfl) rfl ?_
    intro r16 h17 s19
    obtain ⟨x20, rfl, Q⟩ := Q _ _ s19
    exact z_iret (pc := 32) rfl dX7_lend_32 Q
  · replace Q := Q.2 c
    refine z_iload (pc := 16) (n := 0) dX7_lend_16 rfl ?_
    exact z_iret (pc := 18) rfl dX7_lend_18 Q
set_option maxHeartbeats 4000000 in
set_option maxRecDepth 100000 in
theorem k_X7_lendFault_0 {d : Nat} {Post : Option zA → zH → Prop} {Γ : zCx} {h : zH} {a1 : Int} {a2 : Int} {a3 : Int} {a4 : Int}  (hd : 3 ≤ d) (Q :
 ((¬ (0 ≤ a1 ∧ a1 ≤ 5) →
  Post (some (zI (-1))) h) ∧
 (0 ≤ a1 ∧ a1 ≤ 5 →
  ((¬ (0 ≤ a2 ∧ a2 ≤ 5) →
   Post (some (zI (-1))) h) ∧
  (0 ≤ a2 ∧ a2 ≤ 5 →
   ((0 ≤ a3 ∧ a3 ≤ 5 →
    ((¬ (1 ≤ a4 ∧ a4 ≤ 64) →
     Post (some (zI (-2))) h) ∧
    (1 ≤ a4 ∧ a4 ≤ 64 →
     ((¬ a1 = a2 →
      (0 ≤ a1 ∧ a1 ≤ 5) ∧
      (0 ≤ a3 ∧ a3 ≤ 5) ∧
      0 ≤ (6 * a3 + a1) ∧ (6 * a3 + a1) < 336 ∧
      (((h 129 (6 * a3 + a1).toNat) < a4 →
       Post (some (zI (-4))) h) ∧
      (¬ (h 129 (6 * a3 + a1).toNat) < a4 →
       (0 ≤ a1 ∧ a1 ≤ 5) ∧
       (0 ≤ a3 ∧ a3 ≤ 5) ∧
       0 ≤ (36 + 6 * a3 + a1) ∧ (36 + 6 * a3 + a1) < 336 ∧
       ((¬ (h 129 (36 + 6 * a3 + a1).toNat) = 1 →
        ∃ (d9 : Nat) (P10 : Option zA → zH → Prop), d9 + 1 ≤ d ∧ zSp d9 mX7_isFull [zR 128] h P10 ∧ ∀ r11 h12, P10 r11 h12 →
        ∃ x15 : Int, r11 = some (zI x15) ∧
        ((x15 = 0 →
         Post (some (zI 0)) h12) ∧
        (¬ x15 = 0 →
         Post (some (zI (-3))) h12))) ∧
       ((h 129 (36 + 6 * a3 + a1).toNat) = 1 →
        Post (some (zI (-4))) h))))) ∧
     (a1 = a2 →
      Post (some (zI (-2))) h))))) ∧
   (¬ (0 ≤ a3 ∧ a3 ≤ 5) →
    Post (some (zI (-1))) h))))))) :
    zV RX7 cX7_lendFault 5 (some .int) d Post Γ 0 [(0, zR 128), (1, zI a1), (2, zI a2), (3, zI a3), (4, zI a4)] [] h := by
  refine z_iload_n (pc := 0) (n := 1) dX7_lendFault_0 rfl rfl ?_
  refine z_callS (pc := 1) (M := mX7_isAgent) (as := [_]) (st := []) c_X7_isAgent wt_X7_isAgent wm_X7_isAgent ⟨by omega, by decide⟩ wl_X7_59 dX7_lendFault_1 rfl (Nat.le_of_ble_eq_true rfl) rfl ?_
  rintro _ _ ⟨rfl, rfl⟩
  refine z_ifb_eq (pc := 4) (tgt := 21) dX7_lendFault_4 (by decide) (fun c => ?_) (fun c => ?_)
  · replace Q := Q.1 c
    refine z_iconst (pc := 21) (a := -1) dX7_lendFault_21 rfl ?_
    exact z_iret (pc := 22) rfl dX7_lendFault_22 Q
  · replace Q := Q.2 c
    refine z_iload_n (pc := 7) (n := 2) dX7_lendFault_7 rfl rfl ?_
    refine z_callS (pc := 8) (M := mX7_isAgent) (as := [_]) (st := []) c_X7_isAgent wt_X7_isAgent wm_X7_isAgent ⟨by omega, by decide⟩ wl_X7_59 dX7_lendFault_8 rfl (Nat.le_of_ble_eq_true rfl) rfl ?_
    rintro _ _ ⟨rfl, rfl⟩
    refine z_ifb_eq (pc := 11) (tgt := 21) dX7_lendFault_11 (by decide) (fun c => ?_) (fun c => ?_)
    · replace Q := Q.1 c
      refine z_iconst (pc := 21) (a := -1) dX7_lendFault_21 rfl ?_
      exact z_iret (pc := 22) rfl dX7_lendFault_22 Q
    · replace Q := Q.2 c
      refine z_iload_n (pc := 14) (n := 3) dX7_lendFault_14 rfl rfl ?_
      refine z_callS (pc := 15) (M := mX7_isCell) (as := [_]) (st := []) c_X7_isCell wt_X7_isCell wm_X7_isCell ⟨by omega, by decide⟩ wl_X7_63 dX7_lendFault_15 rfl (Nat.le_of_ble_eq_true rfl) rfl ?_
      rintro _ _ ⟨rfl, rfl⟩
      refine z_ifb_ne (pc := 18) (tgt := 23) dX7_lendFault_18 (by decide) (fun c => ?_) (fun c => ?_)
      · replace Q := Q.1 c
        refine z_iload (pc := 23) (n := 4) dX7_lendFault_23 rfl ?_
        refine z_iconst (pc := 25) (a := 1) dX7_lendFault_25 rfl ?_
        refine z_bipush (pc := 26) (a := 64) dX7_lendFault_26 rfl ?_
        refine z_callS (pc := 28) (M := mX7_in) (as := [_, _, _]) (st := []) c_X7_in wt_X7_in wm_X7_in ⟨by omega, by decide⟩ wl_X7_55 dX7_lendFault_28 rfl (Nat.le_of_ble_eq_true rfl) rfl ?_
        rintro _ _ ⟨rfl, rfl⟩
        refine z_ifb_eq (pc := 31) (tgt := 39) dX7_lendFault_31 (by decide) (fun c => ?_) (fun c => ?_)
        · replace Q := Q.1 c
          refine z_bipush (pc := 39) (a := -2) dX7_lendFault_39 rfl ?_
          exact z_iret (pc := 41) rfl dX7_lendFault_41 Q
        · replace Q := Q.2 c
          refine z_iload_n (pc := 34) (n := 1) dX7_lendFault_34 rfl rfl ?_
          refine z_iload_n (pc := 35) (n := 2) dX7_lendFault_35 rfl rfl ?_
          refine z_icmp_ne (pc := 36) (tgt := 42) dX7_lendFault_36 (by decide) (fun c => ?_) (fun c => ?_)
          · replace Q := Q.1 c
            refine z_aload_n (pc := 42) (n := 0) dX7_lendFault_42 rfl rfl ?_
            refine z_getR (pc := 43) (q2 := 129) zo_Model rfl inT7 (i := 0) (by decide) wf_X7_7 rfl (fun _ _ => rfl) dX7_lendFault_43 ?_
            refine z_iload_n (pc := 46) (n := 1) dX7_lendFault_46 rfl rfl ?_
            refine z_iload_n (pc := 47) (n := 3) dX7_lendFault_47 rfl rfl ?_
            obtain ⟨c1, Q⟩ := Q
            obtain ⟨c2, Q⟩ := Q
            refine z_callS (pc := 48) (M := mX7_held) (as := [_, _]) (st := [_]) (c_X7_held c1 c2) wt_X7_held wm_X7_held ⟨by omega, by decide⟩ wl_X7_51 dX7_lendFault_48 rfl (Nat.le_of_ble_eq_true rfl) rfl ?_
            rintro _ _ ⟨rfl, rfl⟩
            obtain ⟨c3, c4, Q⟩ := Q
            refine z_iald (pc := 51) za_ms c3 c4 dX7_lendFault_51 ?_
            refine z_iload (pc := 52) (n := 4) dX7_lendFault_52 rfl ?_
            refine z_icmp_lt (pc := 54) (tgt := 71) dX7_lendFault_54 (by decide) (fun c => ?_) (fun c => ?_)
            · replace Q := Q.1 c
              refine z_bipush (pc := 71) (a := -4) dX7_lendFault_71 rfl ?_
              exact z_iret (pc := 73) rfl dX7_lendFault_73 Q
            · replace Q := Q.2 c
              refine z_aload_n (pc := 57) (n := 0) dX7_lendFault_57 rfl rfl ?_
              refine z_getR (pc := 58) (q2 := 129) zo_Model rfl inT7 (i := 0) (by decide) wf_X7_7 rfl (fun _ _ => rfl) dX7_lendFault_58 ?_
              refine z_iload_n (pc := 61) (n := 1) dX7_lendFault_61 rfl rfl ?_
              refine z_iload_n (pc := 62) (n := 3) dX7_lendFault_62 rfl rfl ?_
              obtain ⟨c5, Q⟩ := Q
              obtain ⟨c6, Q⟩ := Q
              refine z_callS (pc := 63) (M := mX7_holds) (as := [_, _]) (st := [_]) (c_X7_holds c5 c6) wt_X7_holds wm_X7_holds ⟨by omega, by decide⟩ wl_X7_72 dX7_lendFault_63 rfl (Nat.le_of_ble_eq_true rfl) rfl ?_
              rintro _ _ ⟨rfl, rfl⟩
              obtain ⟨c7, c8, Q⟩ := Q
              refine z_iald (pc := 66) za_ms c7 c8 dX7_lendFault_66 ?_
              refine z_iconst (pc := 67) (a := 1) dX7_lendFault_67 rfl ?_
              refine z_icmp_ne (pc := 68) (tgt := 74) dX7_lendFault_68 (by decide) (fun c => ?_) (fun c => ?_)
              · replace Q := Q.1 c
                refine z_aload_n (pc := 74) (n := 0) dX7_lendFault_74 rfl rfl ?_
                obtain ⟨d9, P10, e13, s14, Q⟩ := Q
                refine z_callV (pc := 75) (M := mX7_isFull) (as := []) (st := []) s14 zo_Model rfl wi_X7_isFull wm_X7_isFull ⟨by omega, by decide⟩ wl_X7_102 dX7_lendFault_75 rfl (Nat.le_of_ble_eq_true rfl) rfl ?_
                intro r11 h12 s14
                obtain ⟨x15, rfl, Q⟩ := Q _ _ s14
                refine z_if_eq (pc := 78) (tgt := 86) dX7_lendFault_78 (by decide) (fun c => ?_) (fun c => ?_)
                · replace Q := Q.1 c
                  refine z_iconst (pc := 86) (a := 0) dX7_lendFault_86 rfl ?_
                  exact z_iret (pc := 87) rfl dX7_lendFault_87 Q
                · replace Q := Q.2 c
                  refine z_bipush (pc := 81) (a := -3) dX7_lendFault_81 rfl ?_
                  refine z_goto (pc := 83) (tgt := 87) dX7_lendFault_83 (by decide) ?_
                  exact z_iret (pc := 87) rfl dX7_lendFault_87 Q
              · replace Q := Q.2 c
                refine z_bipush (pc := 71) (a := -4) dX7_lendFault_71 rfl ?_
                exact z_iret (pc := 73) rfl dX7_lendFault_73 Q
          · replace Q := Q.2 c
            refine z_bipush (pc := 39) (a := -2) dX7_lendFault_39 rfl ?_
            exact z_iret (pc := 41) rfl dX7_lendFault_41 Q
      · replace Q := Q.2 c
        refine z_iconst (pc := 21) (a := -1) dX7_lendFault_21 rfl ?_
        exact z_iret (pc := 22) rfl dX7_lendFault_22 Q
set_option maxHeartbeats 4000000 in
set_option maxRecDepth 100000 in
theorem k_X7_lends_0 {d : Nat} {Post : Option zA → zH → Prop} {Γ : zCx} {h : zH} {a1 : Int} {a2 : Int} {a3 : Int} {a4 : Int}  (hd : 2 ≤ d) (Q :
 ∀ x1 : Int, x1 = (h 129 132) →
 (-1 ≤ x1 ∧ x1 ≤ 40) ∧
 0 ≤ (136 + 5 * x1 + 0) ∧ (136 + 5 * x1 + 0) < 336 ∧
 ∀ h5 : zH, h5 = zu h 129 (136 + 5 * x1 + 0).toNat (h 129 133) →
 (-1 ≤ x1 ∧ x1 ≤ 40) ∧
 0 ≤ (136 + 5 * x1 + 1) ∧ (136 + 5 * x1 + 1) < 336 ∧
 ∀ h9 : zH, h9 = zu h5 129 (136 + 5 * x1 + 1).toNat a1 →
 (-1 ≤ x1 ∧ x1 ≤ 40) ∧
 0 ≤ (136 + 5 * x1 + 2) ∧ (136 + 5 * x1 + 2) < 336 ∧
 ∀ h13 : zH, h13 = zu h9 129 (136 + 5 * x1 + 2).toNat a2 →
 (-1 ≤ x1 ∧ x1 ≤ 40) ∧
 0 ≤ (136 + 5 * x1 + 3) ∧ (136 + 5 * x1 + 3) < 336 ∧
 ∀ h17 : zH, h17 = zu h13 129 (136 + 5 * x1 + 3).toNat a3 →
 (-1 ≤ x1 ∧ x1 ≤ 40) ∧
 0 ≤ (136 + 5 * x1 + 4) ∧ (136 + 5 * x1 + 4) < 336 ∧
 ∀ h21 : zH, h21 = zu h17 129 (136 + 5 * x1 + 4).toNat a4 →
 (0 ≤ a1 ∧ a1 ≤ 5) ∧
 (0 ≤ a3 ∧ a3 ≤ 5) ∧
 0 ≤ (6 * a3 + a1) ∧ (6 * a3 + a1) < 336 ∧
 0 ≤ (6 * a3 + a1) ∧ (6 * a3 + a1) < 336 ∧
 ∀ h28 : zH, h28 = zu h21 129 (6 * a3 + a1).toNat (zwr ((h21 129 (6 * a3 + a1).toNat) - a4)) →
 (0 ≤ a2 ∧ a2 ≤ 5) ∧
 (0 ≤ a3 ∧ a3 ≤ 5) ∧
 0 ≤ (6 * a3 + a2) ∧ (6 * a3 + a2) < 336 ∧
 0 ≤ (6 * a3 + a2) ∧ (6 * a3 + a2) < 336 ∧
 ∀ h35 : zH, h35 = zu h28 129 (6 * a3 + a2).toNat (zwr ((h28 129 (6 * a3 + a2).toNat) + a4)) →
 ∀ h36 : zH, h36 = zu h35 129 132 (zwr ((h35 129 132) + 1)) →
 ∀ h37 : zH, h37 = zu h36 129 133 (zwr ((h36 129 133) + 1)) →
 Post (some (zI (zwr ((h37 129 133) - 1)))) h37) :
    zV RX7 cX7_lends 6 (some .int) d Post Γ 0 [(0, zR 128), (1, zI a1), (2, zI a2), (3, zI a3), (4, zI a4)] [] h := by
  refine z_aload_n (pc := 0) (n := 0) dX7_lends_0 rfl rfl ?_
  refine z_getR (pc := 1) (q2 := 129) zo_Model rfl inT7 (i := 0) (by decide) wf_X7_7 rfl (fun _ _ => rfl) dX7_lends_1 ?_
  refine z_sipush (pc := 4) (a := 132) dX7_lends_4 rfl ?_
  refine z_iald (pc := 7) za_ms (by decide) (by decide) dX7_lends_7 ?_
  refine z_top (fun x1 ex1 => ?_)
  replace Q := Q x1 ex1
  refine z_istore (pc := 8) (ls' := [(5, _), (0, _), (1, _), (2, _), (3, _), (4, _)]) dX7_lends_8 (by decide) rfl ?_
  refine z_aload_n (pc := 10) (n := 1) dX7_lends_10 rfl rfl ?_
  refine z_getR (pc := 11) (q2 := 129) zo_Model rfl inT7 (i := 0) (by decide) wf_X7_7 rfl (fun _ _ => rfl) dX7_lends_11 ?_
  refine z_iload (pc := 14) (n := 0) dX7_lends_14 rfl ?_
  refine z_iconst (pc := 16) (a := 0) dX7_lends_16 rfl ?_
  obtain ⟨c2, Q⟩ := Q
  refine z_callS (pc := 17) (M := mX7_of) (as := [_, _]) (st := [_]) (c_X7_of c2 (by decide)) wt_X7_of wm_X7_of ⟨by omega, by decide⟩ wl_X7_69 dX7_lends_17 rfl (Nat.le_of_ble_eq_true rfl) rfl ?_
  rintro _ _ ⟨rfl, rfl⟩
  refine z_aload_n (pc := 20) (n := 1) dX7_lends_20 rfl rfl ?_
  refine z_getR (pc := 21) (q2 := 129) zo_Model rfl inT7 (i := 0) (by decide) wf_X7_7 rfl (fun _ _ => rfl) dX7_lends_21 ?_
  refine z_sipush (pc := 24) (a := 133) dX7_lends_24 rfl ?_
  refine z_iald (pc := 27) za_ms (by decide) (by decide) dX7_lends_27 ?_
  obtain ⟨c3, c4, Q⟩ := Q
  refine z_iast (pc := 28) za_ms c3 c4 dX7_lends_28 ?_
  refine z_heap (fun h5 eh5 => ?_)
  replace Q := Q h5 eh5
  refine z_aload_n (pc := 29) (n := 1) dX7_lends_29 rfl rfl ?_
  refine z_getR (pc := 30) (q2 := 129) zo_Model rfl inT7 (i := 0) (by decide) wf_X7_7 rfl (fun _ _ => rfl) dX7_lends_30 ?_
  refine z_iload (pc := 33) (n := 0) dX7_lends_33 rfl ?_
  refine z_iconst (pc := 35) (a := 1) dX7_lends_35 rfl ?_
  obtain ⟨c6, Q⟩ := Q
  refine z_callS (pc := 36) (M := mX7_of) (as := [_, _]) (st := [_]) (c_X7_of c6 (by decide)) wt_X7_of wm_X7_of ⟨by omega, by decide⟩ wl_X7_69 dX7_lends_36 rfl (Nat.le_of_ble_eq_true rfl) rfl ?_
  rintro _ _ ⟨rfl, rfl⟩
  refine z_iload_n (pc := 39) (n := 2) dX7_lends_39 rfl rfl ?_
  obtain ⟨c7, c8, Q⟩ := Q
  refine z_iast (pc := 40) za_ms c7 c8 dX7_lends_40 ?_
  refine z_heap (fun h9 eh9 => ?_)
  replace Q := Q h9 eh9
  refine z_aload_n (pc := 41) (n := 1) dX7_lends_41 rfl rfl ?_
  refine z_getR (pc := 42) (q2 := 129) zo_Model rfl inT7 (i := 0) (by decide) wf_X7_7 rfl (fun _ _ => rfl) dX7_lends_42 ?_
  refine z_iload (pc := 45) (n := 0) dX7_lends_45 rfl ?_
  refine z_iconst (pc := 47) (a := 2) dX7_lends_47 rfl ?_
  obtain ⟨c10, Q⟩ := Q
  refine z_callS (pc := 48) (M := mX7_of) (as := [_, _]) (st := [_]) (c_X7_of c10 (by decide)) wt_X7_of wm_X7_of ⟨by omega, by decide⟩ wl_X7_69 dX7_lends_48 rfl (Nat.le_of_ble_eq_true rfl) rfl ?_
  rintro _ _ ⟨rfl, rfl⟩
  refine z_iload_n (pc := 51) (n := 3) dX7_lends_51 rfl rfl ?_
  obtain ⟨c11, c12, Q⟩ := Q
  refine z_iast (pc := 52) za_ms c11 c12 dX7_lends_52 ?_
  refine z_heap (fun h13 eh13 => ?_)
  replace Q := Q h13 eh13
  refine z_aload_n (pc := 53) (n := 1) dX7_lends_53 rfl rfl ?_
  refine z_getR (pc := 54) (q2 := 129) zo_Model rfl inT7 (i := 0) (by decide) wf_X7_7 rfl (fun _ _ => rfl) dX7_lends_54 ?_
  refine z_iload (pc := 57) (n := 0) dX7_lends_57 rfl ?_
  refine z_iconst (pc := 59) (a := 3) dX7_lends_59 rfl ?_
  obtain ⟨c14, Q⟩ := Q
  refine z_callS (pc := 60) (M := mX7_of) (as := [_, _]) (st := [_]) (c_X7_of c14 (by decide)) wt_X7_of wm_X7_of ⟨by omega, by decide⟩ wl_X7_69 dX7_lends_60 rfl (Nat.le_of_ble_eq_true rfl) rfl ?_
  rintro _ _ ⟨rfl, rfl⟩
  refine z_iload_n (pc := 63) (n := 4) dX7_lends_63 rfl rfl ?_
  obtain ⟨c15, c16, Q⟩ := Q
  refine z_iast (pc := 64) za_ms c15 c16 dX7_lends_64 ?_
  refine z_heap (fun h17 eh17 => ?_)
  replace Q := Q h17 eh17
  refine z_aload_n (pc := 65) (n := 1) dX7_lends_65 rfl rfl ?_
  refine z_getR (pc := 66) (q2 := 129) zo_Model rfl inT7 (i := 0) (by decide) wf_X7_7 rfl (fun _ _ => rfl) dX7_lends_66 ?_
  refine z_iload (pc := 69) (n := 0) dX7_lends_69 rfl ?_
  refine z_iconst (pc := 71) (a := 4) dX7_lends_71 rfl ?_
  obtain ⟨c18, Q⟩ := Q
  refine z_callS (pc := 72) (M := mX7_of) (as := [_, _]) (st := [_]) (c_X7_of c18 (by decide)) wt_X7_of wm_X7_of ⟨by omega, by decide⟩ wl_X7_69 dX7_lends_72 rfl (Nat.le_of_ble_eq_true rfl) rfl ?_
  rintro _ _ ⟨rfl, rfl⟩
  refine z_iload (pc := 75) (n := 5) dX7_lends_75 rfl ?_
  obtain ⟨c19, c20, Q⟩ := Q
  refine z_iast (pc := 77) za_ms c19 c20 dX7_lends_77 ?_
  refine z_heap (fun h21 eh21 => ?_)
  replace Q := Q h21 eh21
  refine z_aload_n (pc := 78) (n := 1) dX7_lends_78 rfl rfl ?_
  refine z_getR (pc := 79) (q2 := 129) zo_Model rfl inT7 (i := 0) (by decide) wf_X7_7 rfl (fun _ _ => rfl) dX7_lends_79 ?_
  refine z_iload_n (pc := 82) (n := 2) dX7_lends_82 rfl rfl ?_
  refine z_iload_n (pc := 83) (n := 4) dX7_lends_83 rfl rfl ?_
  obtain ⟨c22, Q⟩ := Q
  obtain ⟨c23, Q⟩ := Q
  refine z_callS (pc := 84) (M := mX7_held) (as := [_, _]) (st := [_]) (c_X7_held c22 c23) wt_X7_held wm_X7_held ⟨by omega, by decide⟩ wl_X7_51 dX7_lends_84 rfl (Nat.le_of_ble_eq_true rfl) rfl ?_
  rintro _ _ ⟨rfl, rfl⟩
  refine z_dup2 (pc := 87) dX7_lends_87 rfl rfl ?_
  obtain ⟨c24, c25, Q⟩ := Q
  refine z_iald (pc := 88) za_ms c24 c25 dX7_lends_88 ?_
  refine z_iload (pc := 89) (n := 5) dX7_lends_89 rfl ?_
  refine z_isub (pc := 91) dX7_lends_91 ?_
  obtain ⟨c26, c27, Q⟩ := Q
  refine z_iast (pc := 92) za_ms c26 c27 dX7_lends_92 ?_
  refine z_heap (fun h28 eh28 => ?_)
  replace Q := Q h28 eh28
  refine z_aload_n (pc := 93) (n := 1) dX7_lends_93 rfl rfl ?_
  refine z_getR (pc := 94) (q2 := 129) zo_Model rfl inT7 (i := 0) (by decide) wf_X7_7 rfl (fun _ _ => rfl) dX7_lends_94 ?_
  refine z_iload_n (pc := 97) (n := 3) dX7_lends_97 rfl rfl ?_
  refine z_iload_n (pc := 98) (n := 4) dX7_lends_98 rfl rfl ?_
  obtain ⟨c29, Q⟩ := Q
  obtain ⟨c30, Q⟩ := Q
  refine z_callS (pc := 99) (M := mX7_held) (as := [_, _]) (st := [_]) (c_X7_held c29 c30) wt_X7_held wm_X7_held ⟨by omega, by decide⟩ wl_X7_51 dX7_lends_99 rfl (Nat.le_of_ble_eq_true rfl) rfl ?_
  rintro _ _ ⟨rfl, rfl⟩
  refine z_dup2 (pc := 102) dX7_lends_102 rfl rfl ?_
  obtain ⟨c31, c32, Q⟩ := Q
  refine z_iald (pc := 103) za_ms c31 c32 dX7_lends_103 ?_
  refine z_iload (pc := 104) (n := 5) dX7_lends_104 rfl ?_
  refine z_iadd (pc := 106) dX7_lends_106 ?_
  obtain ⟨c33, c34, Q⟩ := Q
  refine z_iast (pc := 107) za_ms c33 c34 dX7_lends_107 ?_
  refine z_heap (fun h35 eh35 => ?_)
  replace Q := Q h35 eh35
  refine z_aload_n (pc := 108) (n := 1) dX7_lends_108 rfl rfl ?_
  refine z_getR (pc := 109) (q2 := 129) zo_Model rfl inT7 (i := 0) (by decide) wf_X7_7 rfl (fun _ _ => rfl) dX7_lends_109 ?_
  refine z_sipush (pc := 112) (a := 132) dX7_lends_112 rfl ?_
  refine z_dup2 (pc := 115) dX7_lends_115 rfl rfl ?_
  refine z_iald (pc := 116) za_ms (by decide) (by decide) dX7_lends_116 ?_
  refine z_iconst (pc := 117) (a := 1) dX7_lends_117 rfl ?_
  refine z_iadd (pc := 118) dX7_lends_118 ?_
  refine z_iast (pc := 119) za_ms (by decide) (by decide) dX7_lends_119 ?_
  refine z_heap (fun h36 eh36 => ?_)
  replace Q := Q h36 eh36
  refine z_aload_n (pc := 120) (n := 1) dX7_lends_120 rfl rfl ?_
  refine z_getR (pc := 121) (q2 := 129) zo_Model rfl inT7 (i := 0) (by decide) wf_X7_7 rfl (fun _ _ => rfl) dX7_lends_121 ?_
  refine z_sipush (pc := 124) (a := 133) dX7_lends_124 rfl ?_
  refine z_dup2 (pc := 127) dX7_lends_127 rfl rfl ?_
  refine z_iald (pc := 128) za_ms (by decide) (by decide) dX7_lends_128 ?_
  refine z_iconst (pc := 129) (a := 1) dX7_lends_129 rfl ?_
  refine z_iadd (pc := 130) dX7_lends_130 ?_
  refine z_iast (pc := 131) za_ms (by decide) (by decide) dX7_lends_131 ?_
  refine z_heap (fun h37 eh37 => ?_)
  replace Q := Q h37 eh37
  refine z_aload_n (pc := 132) (n := 1) dX7_lends_132 rfl rfl ?_
  refine z_getR (pc := 133) (q2 := 129) zo_Model rfl inT7 (i := 0) (by decide) wf_X7_7 rfl (fun _ _ => rfl) dX7_lends_133 ?_
  refine z_sipush (pc := 136) (a := 133) dX7_lends_136 rfl ?_
  refine z_iald (pc := 139) za_ms (by decide) (by decide) dX7_lends_139 ?_
  refine z_iconst (pc := 140) (a := 1) dX7_lends_140 rfl ?_
  refine z_isub (pc := 141) dX7_lends_141 ?_
  exact z_iret (pc := 142) rfl dX7_lends_142 Q
set_option maxHeartbeats 4000000 in
set_option maxRecDepth 100000 in
theorem k_X7_loan_0 {d : Nat} {Post : Option zA → zH → Prop} {Γ : zCx} {h : zH} {a1 : Int} {a2 : Int}  (hd : 2 ≤ d) (Q :
 ∃ (d1 : Nat) (P2 : Option zA → zH → Prop), d1 + 1 ≤ d ∧ zSp d1 mX7_placeOf [zR 128, zI a1] h P2 ∧ ∀ r3 h4, P2 r3 h4 →
 ∃ x7 : Int, r3 = some (zI x7) ∧
 ((¬ x7 = (-5) →
  ((0 ≤ a2 ∧ a2 ≤ 4 →
   ((4 ≤ a2 →
    ∃ (d8 : Nat) (P9 : Option zA → zH → Prop), d8 + 1 ≤ d ∧ zSp d8 mX7_canGive [zR 128, zI x7] h4 P9 ∧ ∀ r10 h11, P9 r10 h11 →
    ∃ x14 : Int, r10 = some (zI x14) ∧
    ((x14 = 0 →
     Post (some (zI 0)) h11) ∧
    (¬ x14 = 0 →
     Post (some (zI 1)) h11))) ∧
   (¬ 4 ≤ a2 →
    (-1 ≤ x7 ∧ x7 ≤ 40) ∧
    (0 ≤ (zwr (a2 + 1)) ∧ (zwr (a2 + 1)) ≤ 4) ∧
    0 ≤ (136 + 5 * x7 + (zwr (a2 + 1))) ∧ (136 + 5 * x7 + (zwr (a2 + 1))) < 336 ∧
    Post (some (zI (h4 129 (136 + 5 * x7 + (zwr (a2 + 1))).toNat))) h4))) ∧
  (¬ (0 ≤ a2 ∧ a2 ≤ 4) →
   Post (some (zI (-2))) h4))) ∧
 (x7 = (-5) →
  Post (some (zI (-1))) h4))) :
    zV RX7 cX7_loan 4 (some .int) d Post Γ 0 [(0, zR 128), (1, zI a1), (2, zI a2)] [] h := by
  refine z_aload_n (pc := 0) (n := 0) dX7_loan_0 rfl rfl ?_
  refine z_iload_n (pc := 1) (n := 1) dX7_loan_1 rfl rfl ?_
  obtain ⟨d1, P2, e5, s6, Q⟩ := Q
  refine z_callV (pc := 2) (M := mX7_placeOf) (as := [_]) (st := []) s6 zo_Model rfl wi_X7_placeOf wm_X7_placeOf ⟨by omega, by decide⟩ wl_X7_82 dX7_loan_2 rfl (Nat.le_of_ble_eq_true rfl) rfl ?_
  intro r3 h4 s6
  obtain ⟨x7, rfl, Q⟩ := Q _ _ s6
  refine z_istore_n (pc := 5) (ls' := [(3, _), (0, _), (1, _), (2, _)]) dX7_loan_5 rfl (by decide) rfl ?_
  refine z_iload_n (pc := 6) (n := 0) dX7_loan_6 rfl rfl ?_
  refine z_bipush (pc := 7) (a := -5) dX7_loan_7 rfl ?_
  refine z_icmp_ne (pc := 9) (tgt := 14) dX7_loan_9 (by decide) (fun c => ?_) (fun c => ?_)
  · replace Q := Q.1 c
    refine z_iload_n (pc := 14) (n := 3) dX7_loan_14 rfl rfl ?_
    refine z_iconst (pc := 15) (a := 0) dX7_loan_15 rfl ?_
    refine z_iconst (pc := 16) (a := 4) dX7_loan_16 rfl ?_
    refine z_callS (pc := 17) (M := mX7_in) (as := [_, _, _]) (st := []) c_X7_in wt_X7_in wm_X7_in ⟨by omega, by decide⟩ wl_X7_55 dX7_loan_17 rfl (Nat.le_of_ble_eq_true rfl) rfl ?_
    rintro _ _ ⟨rfl, rfl⟩
    refine z_ifb_ne (pc := 20) (tgt := 26) dX7_loan_20 (by decide) (fun c => ?_) (fun c => ?_)
    · replace Q := Q.1 c
      refine z_iload_n (pc := 26) (n := 3) dX7_loan_26 rfl rfl ?_
      refine z_iconst (pc := 27) (a := 4) dX7_loan_27 rfl ?_
      refine z_icmp_ge (pc := 28) (tgt := 46) dX7_loan_28 (by decide) (fun c => ?_) (fun c => ?_)
      · replace Q := Q.1 c
        refine z_aload_n (pc := 46) (n := 1) dX7_loan_46 rfl rfl ?_
        refine z_iload_n (pc := 47) (n := 0) dX7_loan_47 rfl rfl ?_
        obtain ⟨d8, P9, e12, s13, Q⟩ := Q
        refine z_callV (pc := 48) (M := mX7_canGive) (as := [_]) (st := []) s13 zo_Model rfl wi_X7_canGive wm_X7_canGive ⟨by omega, by decide⟩ wl_X7_93 dX7_loan_48 rfl (Nat.le_of_ble_eq_true rfl) rfl ?_
        intro r10 h11 s13
        obtain ⟨x14, rfl, Q⟩ := Q _ _ s13
        refine z_if_eq (pc := 51) (tgt := 58) dX7_loan_51 (by decide) (fun c => ?_) (fun c => ?_)
        · replace Q := Q.1 c
          refine z_iconst (pc := 58) (a := 0) dX7_loan_58 rfl ?_
          exact z_iret (pc := 59) rfl dX7_loan_59 Q
        · replace Q := Q.2 c
          refine z_iconst (pc := 54) (a := 1) dX7_loan_54 rfl ?_
          refine z_goto (pc := 55) (tgt := 59) dX7_loan_55 (by decide) ?_
          exact z_iret (pc := 59) rfl dX7_loan_59 Q
      · replace Q := Q.2 c
        refine z_aload_n (pc := 31) (n := 1) dX7_loan_31 rfl rfl ?_
        refine z_getR (pc := 32) (q2 := 129) zo_Model rfl inT7 (i := 0) (by decide) wf_X7_7 rfl (fun _ _ => rfl) dX7_loan_32 ?_
        refine z_iload_n (pc := 35) (n := 0) dX7_loan_35 rfl rfl ?_
        refine z_iload_n (pc := 36) (n := 3) dX7_loan_36 rfl rfl ?_
        refine z_iconst (pc := 37) (a := 1) dX7_loan_37 rfl ?_
        refine z_iadd (pc := 38) dX7_loan_38 ?_
        obtain ⟨c15, Q⟩ := Q
        obtain ⟨c16, Q⟩ := Q
        refine z_callS (pc := 39) (M := mX7_of) (as := [_, _]) (st := [_]) (c_X7_of c15 c16) wt_X7_of wm_X7_of ⟨by omega, by decide⟩ wl_X7_69 dX7_loan_39 rfl (Nat.le_of_ble_eq_true rfl) rfl ?_
        rintro _ _ ⟨rfl, rfl⟩
        obtain ⟨c17, c18, Q⟩ := Q
        refine z_iald (pc := 42) za_ms c17 c18 dX7_loan_42 ?_
        refine z_goto (pc := 43) (tgt := 59) dX7_loan_43 (by decide) ?_
        exact z_iret (pc := 59) rfl dX7_loan_59 Q
    · replace Q := Q.2 c
      refine z_bipush (pc := 23) (a := -2) dX7_loan_23 rfl ?_
      exact z_iret (pc := 25) rfl dX7_loan_25 Q
  · replace Q := Q.2 c
    refine z_iconst (pc := 12) (a := -1) dX7_loan_12 rfl ?_
    exact z_iret (pc := 13) rfl dX7_loan_13 Q
set_option maxHeartbeats 4000000 in
set_option maxRecDepth 100000 in
theorem k_X7_loansOf_0 {d : Nat} {Post : Option zA → zH → Prop} {Γ : zCx} {h : zH} {a1 : Int}  (hd : 1 ≤ d) (Q :
 zV RX7 cX7_loansOf 4 (some .int) d Post Γ 4 [(0, zR 128), (1, zI a1), (2, zI 0), (3, zI 0)] [] h) :
    zV RX7 cX7_loansOf 4 (some .int) d Post Γ 0 [(0, zR 128), (1, zI a1)] [] h := by
  refine z_iconst (pc := 0) (a := 0) dX7_loansOf_0 rfl ?_
  refine z_istore_n (pc := 1) (ls' := [(2, _), (0, _), (1, _)]) dX7_loansOf_1 rfl (by decide) rfl ?_
  refine z_iconst (pc := 2) (a := 0) dX7_loansOf_2 rfl ?_
  refine z_istore_n (pc := 3) (ls' := [(3, _), (2, _), (0, _), (1, _)]) dX7_loansOf_3 rfl (by decide) rfl ?_
  exact z_sub (ks := [2, 3, 1, 0]) rfl Q
set_option maxHeartbeats 4000000 in
set_option maxRecDepth 100000 in
theorem k_X7_loansOf_4 {d : Nat} {Post : Option zA → zH → Prop} {Γ : zCx} {h : zH} {v1 : Int} {v2 : Int} {v3 : Int}  (hd : 2 ≤ d) (Q :
 (((h 129 132) ≤ v3 →
  Post (some (zI v2)) h) ∧
 (¬ (h 129 132) ≤ v3 →
  (-1 ≤ v3 ∧ v3 ≤ 40) ∧
  0 ≤ (136 + 5 * v3 + 3) ∧ (136 + 5 * v3 + 3) < 336 ∧
  ((¬ (h 129 (136 + 5 * v3 + 3).toNat) = v1 →
   ∀ x4 : Int, x4 = (zwr (v2 + 0)) →
   ∀ x5 : Int, x5 = zwr (v3 + 1) →
   zV RX7 cX7_loansOf 4 (some .int) d Post Γ 4 [(0, zR 128), (1, zI v1), (2, zI x4), (3, zI x5)] [] h) ∧
  ((h 129 (136 + 5 * v3 + 3).toNat) = v1 →
   ∀ x6 : Int, x6 = (zwr (v2 + 1)) →
   ∀ x7 : Int, x7 = zwr (v3 + 1) →
   zV RX7 cX7_loansOf 4 (some .int) d Post Γ 4 [(0, zR 128), (1, zI v1), (2, zI x6), (3, zI x7)] [] h))))) :
    zV RX7 cX7_loansOf 4 (some .int) d Post Γ 4 [(0, zR 128), (1, zI v1), (2, zI v2), (3, zI v3)] [] h := by
  refine z_iload_n (pc := 4) (n := 3) dX7_loansOf_4 rfl rfl ?_
  refine z_aload_n (pc := 5) (n := 0) dX7_loansOf_5 rfl rfl ?_
  refine z_getR (pc := 6) (q2 := 129) zo_Model rfl inT7 (i := 0) (by decide) wf_X7_7 rfl (fun _ _ => rfl) dX7_loansOf_6 ?_
  refine z_sipush (pc := 9) (a := 132) dX7_loansOf_9 rfl ?_
  refine z_iald (pc := 12) za_ms (by decide) (by decide) dX7_loansOf_12 ?_
  refine z_icmp_ge (pc := 13) (tgt := 44) dX7_loansOf_13 (by decide) (fun c => ?_) (fun c => ?_)
  · replace Q := Q.1 c
    refine z_iload_n (pc := 44) (n := 2) dX7_loansOf_44 rfl rfl ?_
    exact z_iret (pc := 45) rfl dX7_loansOf_45 Q
  · replace Q := Q.2 c
    refine z_iload_n (pc := 16) (n := 2) dX7_loansOf_16 rfl rfl ?_
    refine z_aload_n (pc := 17) (n := 0) dX7_loansOf_17 rfl rfl ?_
    refine z_getR (pc := 18) (q2 := 129) zo_Model rfl inT7 (i := 0) (by decide) wf_X7_7 rfl (fun _ _ => rfl) dX7_loansOf_18 ?_
    refine z_iload_n (pc := 21) (n := 3) dX7_loansOf_21 rfl rfl ?_
    refine z_iconst (pc := 22) (a := 3) dX7_loansOf_22 rfl ?_
    obtain ⟨c1, Q⟩ := Q
    refine z_callS (pc := 23) (M := mX7_of) (as := [_, _]) (st := [_, _]) (c_X7_of c1 (by decide)) wt_X7_of wm_X7_of ⟨by omega, by decide⟩ wl_X7_69 dX7_loansOf_23 rfl (Nat.le_of_ble_eq_true rfl) rfl ?_
    rintro _ _ ⟨rfl, rfl⟩
    obtain ⟨c2, c3, Q⟩ := Q
    refine z_iald (pc := 26) za_ms c2 c3 dX7_loansOf_26 ?_
    refine z_iload_n (pc := 27) (n := 1) dX7_loansOf_27 rfl rfl ?_
    refine z_icmp_ne (pc := 28) (tgt := 35) dX7_loansOf_28 (by decide) (fun c => ?_) (fun c => ?_)
    · replace Q := Q.1 c
      refine z_iconst (pc := 35) (a := 0) dX7_loansOf_35 rfl ?_
      refine z_iadd (pc := 36) dX7_loansOf_36 ?_
      refine z_top (fun x4 ex4 => ?_)
      replace Q := Q x4 ex4
      refine z_istore_n (pc := 37) (ls' := [(2, _), (0, _), (1, _), (3, _)]) dX7_loansOf_37 rfl (by decide) rfl ?_
      refine z_iincg (pc := 38) (n := 3) (lf := fun y => [(3, zI y), (2, _), (0, _), (1, _)]) dX7_loansOf_38 rfl (by decide) (fun _ => rfl) (fun x5 ex5 => ?_)
      replace Q := Q x5 ex5
      refine z_goto (pc := 41) (tgt := 4) dX7_loansOf_41 (by decide) ?_
      exact z_sub (ks := [2, 3, 1, 0]) rfl Q
    · replace Q := Q.2 c
      refine z_iconst (pc := 31) (a := 1) dX7_loansOf_31 rfl ?_
      refine z_goto (pc := 32) (tgt := 36) dX7_loansOf_32 (by decide) ?_
      refine z_iadd (pc := 36) dX7_loansOf_36 ?_
      refine z_top (fun x6 ex6 => ?_)
      replace Q := Q x6 ex6
      refine z_istore_n (pc := 37) (ls' := [(2, _), (0, _), (1, _), (3, _)]) dX7_loansOf_37 rfl (by decide) rfl ?_
      refine z_iincg (pc := 38) (n := 3) (lf := fun y => [(3, zI y), (2, _), (0, _), (1, _)]) dX7_loansOf_38 rfl (by decide) (fun _ => rfl) (fun x7 ex7 => ?_)
      replace Q := Q x7 ex7
      refine z_goto (pc := 41) (tgt := 4) dX7_loansOf_41 (by decide) ?_
      exact z_sub (ks := [2, 3, 1, 0]) rfl Q
set_option maxHeartbeats 4000000 in
set_option maxRecDepth 100000 in
theorem k_X7_number_0 {d : Nat} {Post : Option zA → zH → Prop} {Γ : zCx} {h : zH} {a1 : Int} {a2 : Int}  (hd : 1 ≤ d) (Q :
 ∃ (d1 : Nat) (P2 : Option zA → zH → Prop), d1 + 1 ≤ d ∧ zSp d1 mX7_sign [zR 128, zI (zwr (48 + a1)), zI 57] h P2 ∧ ∀ r3 h4, P2 r3 h4 →
 ∃ x7 : Int, r3 = some (zI x7) ∧
 ∀ x8 : Int, x8 = (zwr (x7 - 48)) →
 zV RX7 cX7_number 4 (some .int) d Post Γ 14 [(0, zR 128), (1, zI a1), (2, zI a2), (3, zI x8)] [] h4) :
    zV RX7 cX7_number 4 (some .int) d Post Γ 0 [(0, zR 128), (1, zI a1), (2, zI a2)] [] h := by
  refine z_aload_n (pc := 0) (n := 0) dX7_number_0 rfl rfl ?_
  refine z_bipush (pc := 1) (a := 48) dX7_number_1 rfl ?_
  refine z_iload_n (pc := 3) (n := 1) dX7_number_3 rfl rfl ?_
  refine z_iadd (pc := 4) dX7_number_4 ?_
  refine z_bipush (pc := 5) (a := 57) dX7_number_5 rfl ?_
  obtain ⟨d1, P2, e5, s6, Q⟩ := Q
  refine z_callV (pc := 7) (M := mX7_sign) (as := [_, _]) (st := []) s6 zo_Model rfl wi_X7_sign wm_X7_sign ⟨by omega, by decide⟩ wl_X7_158 dX7_number_7 rfl (Nat.le_of_ble_eq_true rfl) rfl ?_
  intro r3 h4 s6
  obtain ⟨x7, rfl, Q⟩ := Q _ _ s6
  refine z_bipush (pc := 10) (a := 48) dX7_number_10 rfl ?_
  refine z_isub (pc := 12) dX7_number_12 ?_
  refine z_top (fun x8 ex8 => ?_)
  replace Q := Q x8 ex8
  refine z_istore_n (pc := 13) (ls' := [(3, _), (0, _), (1, _), (2, _)]) dX7_number_13 rfl (by decide) rfl ?_
  exact z_sub (ks := [1, 2, 3, 0]) rfl Q
set_option maxHeartbeats 4000000 in
set_option maxRecDepth 100000 in
theorem k_X7_number_14 {d : Nat} {Post : Option zA → zH → Prop} {Γ : zCx} {h : zH} {v1 : Int} {v2 : Int} {v3 : Int}  (hd : 2 ≤ d) (Q :
 ((¬ (h 128 16) = 0 →
  Post (some (zI v3)) h) ∧
 ((h 128 16) = 0 →
  ((v3 ≤ 0 →
   Post (some (zI v3)) h) ∧
  (¬ v3 ≤ 0 →
   (((h 128 8) ≤ (h 128 15) →
    Post (some (zI v3)) h) ∧
   (¬ (h 128 8) ≤ (h 128 15) →
    0 ≤ (h 128 15) ∧ (h 128 15) < 60 ∧
    ((¬ (48 ≤ (h 134 (h 128 15).toNat) ∧ (h 134 (h 128 15).toNat) ≤ 57) →
     Post (some (zI v3)) h) ∧
    (48 ≤ (h 134 (h 128 15).toNat) ∧ (h 134 (h 128 15).toNat) ≤ 57 →
     0 ≤ (h 128 15) ∧ (h 128 15) < 60 ∧
     ((v2 < (zwr ((zwr ((zwr (10 * v3)) + (h 134 (h 128 15).toNat))) - 48)) →
      Post (some (zI v3)) h) ∧
     (¬ v2 < (zwr ((zwr ((zwr (10 * v3)) + (h 134 (h 128 15).toNat))) - 48)) →
      ∃ (d5 : Nat) (P6 : Option zA → zH → Prop), d5 + 1 ≤ d ∧ zSp d5 mX7_sign [zR 128, zI 48, zI 57] h P6 ∧ ∀ r7 h8, P6 r7 h8 →
      ∃ x11 : Int, r7 = some (zI x11) ∧
      ∀ x12 : Int, x12 = (zwr ((zwr ((zwr (10 * v3)) + x11)) - 48)) →
      zV RX7 cX7_number 4 (some .int) d Post Γ 14 [(0, zR 128), (1, zI v1), (2, zI v2), (3, zI x12)] [] h8))))))))))) :
    zV RX7 cX7_number 4 (some .int) d Post Γ 14 [(0, zR 128), (1, zI v1), (2, zI v2), (3, zI v3)] [] h := by
  refine z_aload_n (pc := 14) (n := 0) dX7_number_14 rfl rfl ?_
  refine z_getI (pc := 15) zo_Model rfl inT7 (i := 16) (by decide) wf_X7_154 rfl (fun _ _ => rfl) dX7_number_15 ?_
  refine z_if_ne (pc := 18) (tgt := 96) dX7_number_18 (by decide) (fun c => ?_) (fun c => ?_)
  · replace Q := Q.1 c
    refine z_iload_n (pc := 96) (n := 3) dX7_number_96 rfl rfl ?_
    exact z_iret (pc := 97) rfl dX7_number_97 Q
  · replace Q := Q.2 c
    refine z_iload_n (pc := 21) (n := 3) dX7_number_21 rfl rfl ?_
    refine z_if_le (pc := 22) (tgt := 96) dX7_number_22 (by decide) (fun c => ?_) (fun c => ?_)
    · replace Q := Q.1 c
      refine z_iload_n (pc := 96) (n := 3) dX7_number_96 rfl rfl ?_
      exact z_iret (pc := 97) rfl dX7_number_97 Q
    · replace Q := Q.2 c
      refine z_aload_n (pc := 25) (n := 0) dX7_number_25 rfl rfl ?_
      refine z_getI (pc := 26) zo_Model rfl inT7 (i := 15) (by decide) wf_X7_151 rfl (fun _ _ => rfl) dX7_number_26 ?_
      refine z_aload_n (pc := 29) (n := 0) dX7_number_29 rfl rfl ?_
      refine z_getI (pc := 30) zo_Model rfl inT7 (i := 8) (by decide) wf_X7_148 rfl (fun _ _ => rfl) dX7_number_30 ?_
      refine z_icmp_ge (pc := 33) (tgt := 96) dX7_number_33 (by decide) (fun c => ?_) (fun c => ?_)
      · replace Q := Q.1 c
        refine z_iload_n (pc := 96) (n := 3) dX7_number_96 rfl rfl ?_
        exact z_iret (pc := 97) rfl dX7_number_97 Q
      · replace Q := Q.2 c
        refine z_aload_n (pc := 36) (n := 0) dX7_number_36 rfl rfl ?_
        refine z_getR (pc := 37) (q2 := 134) zo_Model rfl inT7 (i := 7) (by decide) wf_X7_25 rfl (fun _ _ => rfl) dX7_number_37 ?_
        refine z_aload_n (pc := 40) (n := 0) dX7_number_40 rfl rfl ?_
        refine z_getI (pc := 41) zo_Model rfl inT7 (i := 15) (by decide) wf_X7_151 rfl (fun _ _ => rfl) dX7_number_41 ?_
        obtain ⟨c1, c2, Q⟩ := Q
        refine z_iald (pc := 44) za_mtext c1 c2 dX7_number_44 ?_
        refine z_bipush (pc := 45) (a := 48) dX7_number_45 rfl ?_
        refine z_bipush (pc := 47) (a := 57) dX7_number_47 rfl ?_
        refine z_callS (pc := 49) (M := mX7_in) (as := [_, _, _]) (st := []) c_X7_in wt_X7_in wm_X7_in ⟨by omega, by decide⟩ wl_X7_55 dX7_number_49 rfl (Nat.le_of_ble_eq_true rfl) rfl ?_
        rintro _ _ ⟨rfl, rfl⟩
        refine z_ifb_eq (pc := 52) (tgt := 96) dX7_number_52 (by decide) (fun c => ?_) (fun c => ?_)
        · replace Q := Q.1 c
          refine z_iload_n (pc := 96) (n := 3) dX7_number_96 rfl rfl ?_
          exact z_iret (pc := 97) rfl dX7_number_97 Q
        · replace Q := Q.2 c
          refine z_bipush (pc := 55) (a := 10) dX7_number_55 rfl ?_
          refine z_iload_n (pc := 57) (n := 3) dX7_number_57 rfl rfl ?_
          refine z_imul (pc := 58) dX7_number_58 ?_
          refine z_aload_n (pc := 59) (n := 0) dX7_number_59 rfl rfl ?_
          refine z_getR (pc := 60) (q2 := 134) zo_Model rfl inT7 (i := 7) (by decide) wf_X7_25 rfl (fun _ _ => rfl) dX7_number_60 ?_
          refine z_aload_n (pc := 63) (n := 0) dX7_number_63 rfl rfl ?_
          refine z_getI (pc := 64) zo_Model rfl inT7 (i := 15) (by decide) wf_X7_151 rfl (fun _ _ => rfl) dX7_number_64 ?_
          obtain ⟨c3, c4, Q⟩ := Q
          refine z_iald (pc := 67) za_mtext c3 c4 dX7_number_67 ?_
          refine z_iadd (pc := 68) dX7_number_68 ?_
          refine z_bipush (pc := 69) (a := 48) dX7_number_69 rfl ?_
          refine z_isub (pc := 71) dX7_number_71 ?_
          refine z_iload_n (pc := 72) (n := 2) dX7_number_72 rfl rfl ?_
          refine z_icmp_gt (pc := 73) (tgt := 96) dX7_number_73 (by decide) (fun c => ?_) (fun c => ?_)
          · replace Q := Q.1 c
            refine z_iload_n (pc := 96) (n := 3) dX7_number_96 rfl rfl ?_
            exact z_iret (pc := 97) rfl dX7_number_97 Q
          · replace Q := Q.2 c
            refine z_bipush (pc := 76) (a := 10) dX7_number_76 rfl ?_
            refine z_iload_n (pc := 78) (n := 3) dX7_number_78 rfl rfl ?_
            refine z_imul (pc := 79) dX7_number_79 ?_
            refine z_aload_n (pc := 80) (n := 0) dX7_number_80 rfl rfl ?_
            refine z_bipush (pc := 81) (a := 48) dX7_number_81 rfl ?_
            refine z_bipush (pc := 83) (a := 57) dX7_number_83 rfl ?_
            obtain ⟨d5, P6, e9, s10, Q⟩ := Q
            refine z_callV (pc := 85) (M := mX7_sign) (as := [_, _]) (st := [_]) s10 zo_Model rfl wi_X7_sign wm_X7_sign ⟨by omega, by decide⟩ wl_X7_158 dX7_number_85 rfl (Nat.le_of_ble_eq_true rfl) rfl ?_
            intro r7 h8 s10
            obtain ⟨x11, rfl, Q⟩ := Q _ _ s10
            refine z_iadd (pc := 88) dX7_number_88 ?_
            refine z_bipush (pc := 89) (a := 48) dX7_number_89 rfl ?_
            refine z_isub (pc := 91) dX7_number_91 ?_
            refine z_top (fun x12 ex12 => ?_)
            replace Q := Q x12 ex12
            refine z_istore_n (pc := 92) (ls' := [(3, _), (0, _), (1, _), (2, _)]) dX7_number_92 rfl (by decide) rfl ?_
            refine z_goto (pc := 93) (tgt := 14) dX7_number_93 (by decide) ?_
            exact z_sub (ks := [1, 2, 3, 0]) rfl Q
set_option maxHeartbeats 4000000 in
set_option maxRecDepth 100000 in
theorem k_X7_order_0 {d : Nat} {Post : Option zA → zH → Prop} {Γ : zCx} {h : zH}   (hd : 1 ≤ d) (Q :
 (((h 128 8) ≤ (h 128 15) →
  zV RX7 cX7_order 3 none d Post Γ 24 [(0, zR 128)] [zI 0] h) ∧
 (¬ (h 128 8) ≤ (h 128 15) →
  0 ≤ (h 128 15) ∧ (h 128 15) < 60 ∧
  zV RX7 cX7_order 3 none d Post Γ 24 [(0, zR 128)] [zI (h 134 (h 128 15).toNat)] h))) :
    zV RX7 cX7_order 3 none d Post Γ 0 [(0, zR 128)] [] h := by
  refine z_aload_n (pc := 0) (n := 0) dX7_order_0 rfl rfl ?_
  refine z_getI (pc := 1) zo_Model rfl inT7 (i := 15) (by decide) wf_X7_151 rfl (fun _ _ => rfl) dX7_order_1 ?_
  refine z_aload_n (pc := 4) (n := 0) dX7_order_4 rfl rfl ?_
  refine z_getI (pc := 5) zo_Model rfl inT7 (i := 8) (by decide) wf_X7_148 rfl (fun _ _ => rfl) dX7_order_5 ?_
  refine z_icmp_ge (pc := 8) (tgt := 23) dX7_order_8 (by decide) (fun c => ?_) (fun c => ?_)
  · replace Q := Q.1 c
    refine z_iconst (pc := 23) (a := 0) dX7_order_23 rfl ?_
    exact z_sub (ks := [0]) rfl Q
  · replace Q := Q.2 c
    refine z_aload_n (pc := 11) (n := 0) dX7_order_11 rfl rfl ?_
    refine z_getR (pc := 12) (q2 := 134) zo_Model rfl inT7 (i := 7) (by decide) wf_X7_25 rfl (fun _ _ => rfl) dX7_order_12 ?_
    refine z_aload_n (pc := 15) (n := 0) dX7_order_15 rfl rfl ?_
    refine z_getI (pc := 16) zo_Model rfl inT7 (i := 15) (by decide) wf_X7_151 rfl (fun _ _ => rfl) dX7_order_16 ?_
    obtain ⟨c1, c2, Q⟩ := Q
    refine z_iald (pc := 19) za_mtext c1 c2 dX7_order_19 ?_
    refine z_goto (pc := 20) (tgt := 24) dX7_order_20 (by decide) ?_
    exact z_sub (ks := [0]) rfl Q
set_option maxHeartbeats 4000000 in
set_option maxRecDepth 100000 in
theorem k_X7_order_24 {d : Nat} {Post : Option zA → zH → Prop} {Γ : zCx} {h : zH} {w0 : Int}  (hd : 1 ≤ d) (Q :
 ((¬ (h 128 16) = 0 →
  zV RX7 cX7_order 3 none d Post Γ 57 [(0, zR 128), (1, zI w0)] [zR 128] h) ∧
 ((h 128 16) = 0 →
  ((w0 = 108 →
   zV RX7 cX7_order 3 none d Post Γ 61 [(0, zR 128), (1, zI w0)] [zR 128] h) ∧
  (¬ w0 = 108 →
   ((w0 = 98 →
    zV RX7 cX7_order 3 none d Post Γ 61 [(0, zR 128), (1, zI w0)] [zR 128] h) ∧
   (¬ w0 = 98 →
    ((w0 = 119 →
     zV RX7 cX7_order 3 none d Post Γ 61 [(0, zR 128), (1, zI w0)] [zR 128] h) ∧
    (¬ w0 = 119 →
     ((w0 = 103 →
      zV RX7 cX7_order 3 none d Post Γ 61 [(0, zR 128), (1, zI w0)] [zR 128] h) ∧
     (¬ w0 = 103 →
      zV RX7 cX7_order 3 none d Post Γ 57 [(0, zR 128), (1, zI w0)] [zR 128] h))))))))))) :
    zV RX7 cX7_order 3 none d Post Γ 24 [(0, zR 128)] [zI w0] h := by
  refine z_istore_n (pc := 24) (ls' := [(1, _), (0, _)]) dX7_order_24 rfl (by decide) rfl ?_
  refine z_aload_n (pc := 25) (n := 1) dX7_order_25 rfl rfl ?_
  refine z_aload_n (pc := 26) (n := 1) dX7_order_26 rfl rfl ?_
  refine z_getI (pc := 27) zo_Model rfl inT7 (i := 16) (by decide) wf_X7_154 rfl (fun _ _ => rfl) dX7_order_27 ?_
  refine z_if_ne (pc := 30) (tgt := 57) dX7_order_30 (by decide) (fun c => ?_) (fun c => ?_)
  · replace Q := Q.1 c
    exact z_sub (ks := [1, 0]) rfl Q
  · replace Q := Q.2 c
    refine z_iload_n (pc := 33) (n := 0) dX7_order_33 rfl rfl ?_
    refine z_bipush (pc := 34) (a := 108) dX7_order_34 rfl ?_
    refine z_icmp_eq (pc := 36) (tgt := 61) dX7_order_36 (by decide) (fun c => ?_) (fun c => ?_)
    · replace Q := Q.1 c
      exact z_sub (ks := [1, 0]) rfl Q
    · replace Q := Q.2 c
      refine z_iload_n (pc := 39) (n := 0) dX7_order_39 rfl rfl ?_
      refine z_bipush (pc := 40) (a := 98) dX7_order_40 rfl ?_
      refine z_icmp_eq (pc := 42) (tgt := 61) dX7_order_42 (by decide) (fun c => ?_) (fun c => ?_)
      · replace Q := Q.1 c
        exact z_sub (ks := [1, 0]) rfl Q
      · replace Q := Q.2 c
        refine z_iload_n (pc := 45) (n := 0) dX7_order_45 rfl rfl ?_
        refine z_bipush (pc := 46) (a := 119) dX7_order_46 rfl ?_
        refine z_icmp_eq (pc := 48) (tgt := 61) dX7_order_48 (by decide) (fun c => ?_) (fun c => ?_)
        · replace Q := Q.1 c
          exact z_sub (ks := [1, 0]) rfl Q
        · replace Q := Q.2 c
          refine z_iload_n (pc := 51) (n := 0) dX7_order_51 rfl rfl ?_
          refine z_bipush (pc := 52) (a := 103) dX7_order_52 rfl ?_
          refine z_icmp_eq (pc := 54) (tgt := 61) dX7_order_54 (by decide) (fun c => ?_) (fun c => ?_)
          · replace Q := Q.1 c
            exact z_sub (ks := [1, 0]) rfl Q
          · replace Q := Q.2 c
            exact z_sub (ks := [1, 0]) rfl Q
set_option maxHeartbeats 4000000 in
set_option maxRecDepth 100000 in
theorem k_X7_order_57 {d : Nat} {Post : Option zA → zH → Prop} {Γ : zCx} {h : zH} {v1 : Int}  (hd : 1 ≤ d) (Q :
 zV RX7 cX7_order 3 none d Post Γ 62 [(0, zR 128), (1, zI v1)] [zI 1, zR 128] h) :
    zV RX7 cX7_order 3 none d Post Γ 57 [(0, zR 128), (1, zI v1)] [zR 128] h := by
  refine z_iconst (pc := 57) (a := 1) dX7_order_57 rfl ?_
  refine z_goto (pc := 58) (tgt := 62) dX7_order_58 (by decide) ?_
  exact z_sub (ks := [0, 1]) rfl Q
set_option maxHeartbeats 4000000 in
set_option maxRecDepth 100000 in
theorem k_X7_order_61 {d : Nat} {Post : Option zA → zH → Prop} {Γ : zCx} {h : zH} {v1 : Int}  (hd : 1 ≤ d) (Q :
 zV RX7 cX7_order 3 none d Post Γ 62 [(0, zR 128), (1, zI v1)] [zI 0, zR 128] h) :
    zV RX7 cX7_order 3 none d Post Γ 61 [(0, zR 128), (1, zI v1)] [zR 128] h := by
  refine z_iconst (pc := 61) (a := 0) dX7_order_61 rfl ?_
  exact z_sub (ks := [0, 1]) rfl Q
set_option maxHeartbeats 4000000 in
set_option maxRecDepth 100000 in
theorem k_X7_order_62 {d : Nat} {Post : Option zA → zH → Prop} {Γ : zCx} {h : zH} {v1 : Int} {w0 : Int}  (hd : 1 ≤ d) (Q :
 (w0 = 0 ∨ w0 = 1) ∧
 ∀ h2 : zH, h2 = zu h 128 16 w0 →
 (((h2 128 16) = 0 →
  zV RX7 cX7_order 3 none d Post Γ 82 [(0, zR 128), (1, zI v1)] [zI 1, zI (h2 128 15), zR 128] h2) ∧
 (¬ (h2 128 16) = 0 →
  zV RX7 cX7_order 3 none d Post Γ 82 [(0, zR 128), (1, zI v1)] [zI 0, zI (h2 128 15), zR 128] h2))) :
    zV RX7 cX7_order 3 none d Post Γ 62 [(0, zR 128), (1, zI v1)] [zI w0, zR 128] h := by
  obtain ⟨c1, Q⟩ := Q
  refine z_putZ (pc := 62) zo_Model rfl inT7 (i := 16) (by decide) wf_X7_154 rfl tyX7 tyX7_ok nmX7 rfl (fun _ _ => Nat.le_of_ble_eq_true rfl) (fun _ _ _ => rfl) c1 rfl dX7_order_62 ?_
  refine z_heap (fun h2 eh2 => ?_)
  replace Q := Q h2 eh2
  refine z_aload_n (pc := 65) (n := 0) dX7_order_65 rfl rfl ?_
  refine z_dup (pc := 66) dX7_order_66 rfl ?_
  refine z_getI (pc := 67) zo_Model rfl inT7 (i := 15) (by decide) wf_X7_151 rfl (fun _ _ => rfl) dX7_order_67 ?_
  refine z_aload_n (pc := 70) (n := 0) dX7_order_70 rfl rfl ?_
  refine z_getI (pc := 71) zo_Model rfl inT7 (i := 16) (by decide) wf_X7_154 rfl (fun _ _ => rfl) dX7_order_71 ?_
  refine z_if_eq (pc := 74) (tgt := 81) dX7_order_74 (by decide) (fun c => ?_) (fun c => ?_)
  · replace Q := Q.1 c
    refine z_iconst (pc := 81) (a := 1) dX7_order_81 rfl ?_
    exact z_sub (ks := [0, 1]) rfl Q
  · replace Q := Q.2 c
    refine z_iconst (pc := 77) (a := 0) dX7_order_77 rfl ?_
    refine z_goto (pc := 78) (tgt := 82) dX7_order_78 (by decide) ?_
    exact z_sub (ks := [0, 1]) rfl Q
set_option maxHeartbeats 4000000 in
set_option maxRecDepth 100000 in
theorem k_X7_order_82 {d : Nat} {Post : Option zA → zH → Prop} {Γ : zCx} {h : zH} {v1 : Int} {w0 : Int} {w1 : Int}  (hd : 1 ≤ d) (Q :
 ∀ h1 : zH, h1 = zu h 128 15 (zwr (w1 + w0)) →
 ∀ h2 : zH, h2 = zu h1 138 0 v1 →
 ((¬ v1 = 98 →
  ∃ (d3 : Nat) (P4 : Option zA → zH → Prop), d3 + 1 ≤ d ∧ zSp d3 mX7_digit [zR 128] h2 P4 ∧ ∀ r5 h6, P4 r5 h6 →
  ∃ x9 : Int, r5 = some (zI x9) ∧
  zV RX7 cX7_order 3 none d Post Γ 119 [(0, zR 128), (1, zI v1)] [zI x9, zI 1, zR 138] h6) ∧
 (v1 = 98 →
  ∃ (d10 : Nat) (P11 : Option zA → zH → Prop), d10 + 1 ≤ d ∧ zSp d10 mX7_number [zR 128, zI 0, zI 999] h2 P11 ∧ ∀ r12 h13, P11 r12 h13 →
  ∃ x16 : Int, r12 = some (zI x16) ∧
  zV RX7 cX7_order 3 none d Post Γ 119 [(0, zR 128), (1, zI v1)] [zI x16, zI 1, zR 138] h13))) :
    zV RX7 cX7_order 3 none d Post Γ 82 [(0, zR 128), (1, zI v1)] [zI w0, zI w1, zR 128] h := by
  refine z_iadd (pc := 82) dX7_order_82 ?_
  refine z_putI (pc := 83) zo_Model rfl inT7 (i := 15) (by decide) wf_X7_151 rfl tyX7 tyX7_ok nmX7 rfl (fun _ _ => Nat.le_of_ble_eq_true rfl) (fun _ _ _ => rfl) rfl dX7_order_83 ?_
  refine z_heap (fun h1 eh1 => ?_)
  replace Q := Q h1 eh1
  refine z_aload_n (pc := 86) (n := 0) dX7_order_86 rfl rfl ?_
  refine z_getR (pc := 87) (q2 := 138) zo_Model rfl inT7 (i := 17) (by decide) wf_X7_45 rfl (fun _ _ => rfl) dX7_order_87 ?_
  refine z_iconst (pc := 90) (a := 0) dX7_order_90 rfl ?_
  refine z_iload_n (pc := 91) (n := 1) dX7_order_91 rfl rfl ?_
  refine z_iast (pc := 92) za_mtold (by decide) (by decide) dX7_order_92 ?_
  refine z_heap (fun h2 eh2 => ?_)
  replace Q := Q h2 eh2
  refine z_aload_n (pc := 93) (n := 0) dX7_order_93 rfl rfl ?_
  refine z_getR (pc := 94) (q2 := 138) zo_Model rfl inT7 (i := 17) (by decide) wf_X7_45 rfl (fun _ _ => rfl) dX7_order_94 ?_
  refine z_iconst (pc := 97) (a := 1) dX7_order_97 rfl ?_
  refine z_iload_n (pc := 98) (n := 1) dX7_order_98 rfl rfl ?_
  refine z_bipush (pc := 99) (a := 98) dX7_order_99 rfl ?_
  refine z_icmp_ne (pc := 101) (tgt := 115) dX7_order_101 (by decide) (fun c => ?_) (fun c => ?_)
  · replace Q := Q.1 c
    refine z_aload_n (pc := 115) (n := 0) dX7_order_115 rfl rfl ?_
    obtain ⟨d3, P4, e7, s8, Q⟩ := Q
    refine z_callV (pc := 116) (M := mX7_digit) (as := []) (st := [_, _]) s8 zo_Model rfl wi_X7_digit wm_X7_digit ⟨by omega, by decide⟩ wl_X7_164 dX7_order_116 rfl (Nat.le_of_ble_eq_true rfl) rfl ?_
    intro r5 h6 s8
    obtain ⟨x9, rfl, Q⟩ := Q _ _ s8
    exact z_sub (ks := [0, 1]) rfl Q
  · replace Q := Q.2 c
    refine z_aload_n (pc := 104) (n := 0) dX7_order_104 rfl rfl ?_
    refine z_iconst (pc := 105) (a := 0) dX7_order_105 rfl ?_
    refine z_sipush (pc := 106) (a := 999) dX7_order_106 rfl ?_
    obtain ⟨d10, P11, e14, s15, Q⟩ := Q
    refine z_callV (pc := 109) (M := mX7_number) (as := [_, _]) (st := [_, _]) s15 zo_Model rfl wi_X7_number wm_X7_number ⟨by omega, by decide⟩ wl_X7_161 dX7_order_109 rfl (Nat.le_of_ble_eq_true rfl) rfl ?_
    intro r12 h13 s15
    obtain ⟨x16, rfl, Q⟩ := Q _ _ s15
    refine z_goto (pc := 112) (tgt := 119) dX7_order_112 (by decide) ?_
    exact z_sub (ks := [0, 1]) rfl Q
set_option maxHeartbeats 4000000 in
set_option maxRecDepth 100000 in
theorem k_X7_order_119 {d : Nat} {Post : Option zA → zH → Prop} {Γ : zCx} {h : zH} {v1 : Int} {w0 : Int} {w1 : Int}  (hd : 1 ≤ d) (Q :
 0 ≤ w1 ∧ w1 < 5 ∧
 ∀ h3 : zH, h3 = zu h 138 w1.toNat w0 →
 ((¬ v1 = 108 →
  zV RX7 cX7_order 3 none d Post Γ 138 [(0, zR 128), (1, zI v1)] [zI 0] h3) ∧
 (v1 = 108 →
  ∃ (d4 : Nat) (P5 : Option zA → zH → Prop), d4 + 1 ≤ d ∧ zSp d4 mX7_sign [zR 128, zI 62, zI 62] h3 P5 ∧ ∀ r6 h7, P5 r6 h7 →
  ∃ x10 : Int, r6 = some (zI x10) ∧
  zV RX7 cX7_order 3 none d Post Γ 138 [(0, zR 128), (1, zI v1)] [zI x10] h7))) :
    zV RX7 cX7_order 3 none d Post Γ 119 [(0, zR 128), (1, zI v1)] [zI w0, zI w1, zR 138] h := by
  obtain ⟨c1, c2, Q⟩ := Q
  refine z_iast (pc := 119) za_mtold c1 c2 dX7_order_119 ?_
  refine z_heap (fun h3 eh3 => ?_)
  replace Q := Q h3 eh3
  refine z_iload_n (pc := 120) (n := 1) dX7_order_120 rfl rfl ?_
  refine z_bipush (pc := 121) (a := 108) dX7_order_121 rfl ?_
  refine z_icmp_ne (pc := 123) (tgt := 137) dX7_order_123 (by decide) (fun c => ?_) (fun c => ?_)
  · replace Q := Q.1 c
    refine z_iconst (pc := 137) (a := 0) dX7_order_137 rfl ?_
    exact z_sub (ks := [0, 1]) rfl Q
  · replace Q := Q.2 c
    refine z_aload_n (pc := 126) (n := 0) dX7_order_126 rfl rfl ?_
    refine z_bipush (pc := 127) (a := 62) dX7_order_127 rfl ?_
    refine z_bipush (pc := 129) (a := 62) dX7_order_129 rfl ?_
    obtain ⟨d4, P5, e8, s9, Q⟩ := Q
    refine z_callV (pc := 131) (M := mX7_sign) (as := [_, _]) (st := []) s9 zo_Model rfl wi_X7_sign wm_X7_sign ⟨by omega, by decide⟩ wl_X7_158 dX7_order_131 rfl (Nat.le_of_ble_eq_true rfl) rfl ?_
    intro r6 h7 s9
    obtain ⟨x10, rfl, Q⟩ := Q _ _ s9
    refine z_goto (pc := 134) (tgt := 138) dX7_order_134 (by decide) ?_
    exact z_sub (ks := [0, 1]) rfl Q
set_option maxHeartbeats 4000000 in
set_option maxRecDepth 100000 in
theorem k_X7_order_138 {d : Nat} {Post : Option zA → zH → Prop} {Γ : zCx} {h : zH} {v1 : Int} {w0 : Int}  (hd : 1 ≤ d) (Q :
 ((¬ v1 = 108 →
  zV RX7 cX7_order 3 none d Post Γ 158 [(0, zR 128), (1, zI v1), (2, zI w0)] [zI 0, zI 2, zR 138] h) ∧
 (v1 = 108 →
  ∃ (d1 : Nat) (P2 : Option zA → zH → Prop), d1 + 1 ≤ d ∧ zSp d1 mX7_digit [zR 128] h P2 ∧ ∀ r3 h4, P2 r3 h4 →
  ∃ x7 : Int, r3 = some (zI x7) ∧
  zV RX7 cX7_order 3 none d Post Γ 158 [(0, zR 128), (1, zI v1), (2, zI w0)] [zI x7, zI 2, zR 138] h4))) :
    zV RX7 cX7_order 3 none d Post Γ 138 [(0, zR 128), (1, zI v1)] [zI w0] h := by
  refine z_istore_n (pc := 138) (ls' := [(2, _), (0, _), (1, _)]) dX7_order_138 rfl (by decide) rfl ?_
  refine z_aload_n (pc := 139) (n := 1) dX7_order_139 rfl rfl ?_
  refine z_getR (pc := 140) (q2 := 138) zo_Model rfl inT7 (i := 17) (by decide) wf_X7_45 rfl (fun _ _ => rfl) dX7_order_140 ?_
  refine z_iconst (pc := 143) (a := 2) dX7_order_143 rfl ?_
  refine z_iload_n (pc := 144) (n := 2) dX7_order_144 rfl rfl ?_
  refine z_bipush (pc := 145) (a := 108) dX7_order_145 rfl ?_
  refine z_icmp_ne (pc := 147) (tgt := 157) dX7_order_147 (by decide) (fun c => ?_) (fun c => ?_)
  · replace Q := Q.1 c
    refine z_iconst (pc := 157) (a := 0) dX7_order_157 rfl ?_
    exact z_sub (ks := [1, 2, 0]) rfl Q
  · replace Q := Q.2 c
    refine z_aload_n (pc := 150) (n := 1) dX7_order_150 rfl rfl ?_
    obtain ⟨d1, P2, e5, s6, Q⟩ := Q
    refine z_callV (pc := 151) (M := mX7_digit) (as := []) (st := [_, _]) s6 zo_Model rfl wi_X7_digit wm_X7_digit ⟨by omega, by decide⟩ wl_X7_164 dX7_order_151 rfl (Nat.le_of_ble_eq_true rfl) rfl ?_
    intro r3 h4 s6
    obtain ⟨x7, rfl, Q⟩ := Q _ _ s6
    refine z_goto (pc := 154) (tgt := 158) dX7_order_154 (by decide) ?_
    exact z_sub (ks := [1, 2, 0]) rfl Q
set_option maxHeartbeats 4000000 in
set_option maxRecDepth 100000 in
theorem k_X7_order_158 {d : Nat} {Post : Option zA → zH → Prop} {Γ : zCx} {h : zH} {v1 : Int} {v2 : Int} {w0 : Int} {w1 : Int}  (hd : 1 ≤ d) (Q :
 0 ≤ w1 ∧ w1 < 5 ∧
 ∀ h3 : zH, h3 = zu h 138 w1.toNat w0 →
 ((¬ v1 = 98 →
  ∃ (d4 : Nat) (P5 : Option zA → zH → Prop), d4 + 1 ≤ d ∧ zSp d4 mX7_sign [zR 128, zI 58, zI 58] h3 P5 ∧ ∀ r6 h7, P5 r6 h7 →
  ∃ x10 : Int, r6 = some (zI x10) ∧
  zV RX7 cX7_order 3 none d Post Γ 177 [(0, zR 128), (1, zI v1), (2, zI v2)] [zI x10] h7) ∧
 (v1 = 98 →
  zV RX7 cX7_order 3 none d Post Γ 177 [(0, zR 128), (1, zI v1), (2, zI v2)] [zI 0] h3))) :
    zV RX7 cX7_order 3 none d Post Γ 158 [(0, zR 128), (1, zI v1), (2, zI v2)] [zI w0, zI w1, zR 138] h := by
  obtain ⟨c1, c2, Q⟩ := Q
  refine z_iast (pc := 158) za_mtold c1 c2 dX7_order_158 ?_
  refine z_heap (fun h3 eh3 => ?_)
  replace Q := Q h3 eh3
  refine z_iload_n (pc := 159) (n := 1) dX7_order_159 rfl rfl ?_
  refine z_bipush (pc := 160) (a := 98) dX7_order_160 rfl ?_
  refine z_icmp_ne (pc := 162) (tgt := 169) dX7_order_162 (by decide) (fun c => ?_) (fun c => ?_)
  · replace Q := Q.1 c
    refine z_aload_n (pc := 169) (n := 0) dX7_order_169 rfl rfl ?_
    refine z_bipush (pc := 170) (a := 58) dX7_order_170 rfl ?_
    refine z_bipush (pc := 172) (a := 58) dX7_order_172 rfl ?_
    obtain ⟨d4, P5, e8, s9, Q⟩ := Q
    refine z_callV (pc := 174) (M := mX7_sign) (as := [_, _]) (st := []) s9 zo_Model rfl wi_X7_sign wm_X7_sign ⟨by omega, by decide⟩ wl_X7_158 dX7_order_174 rfl (Nat.le_of_ble_eq_true rfl) rfl ?_
    intro r6 h7 s9
    obtain ⟨x10, rfl, Q⟩ := Q _ _ s9
    exact z_sub (ks := [0, 1, 2]) rfl Q
  · replace Q := Q.2 c
    refine z_iconst (pc := 165) (a := 0) dX7_order_165 rfl ?_
    refine z_goto (pc := 166) (tgt := 177) dX7_order_166 (by decide) ?_
    exact z_sub (ks := [0, 1, 2]) rfl Q
set_option maxHeartbeats 4000000 in
set_option maxRecDepth 100000 in
theorem k_X7_order_177 {d : Nat} {Post : Option zA → zH → Prop} {Γ : zCx} {h : zH} {v1 : Int} {v2 : Int} {w0 : Int}  (hd : 1 ≤ d) (Q :
 ((¬ v1 = 98 →
  ∃ (d1 : Nat) (P2 : Option zA → zH → Prop), d1 + 1 ≤ d ∧ zSp d1 mX7_digit [zR 128] h P2 ∧ ∀ r3 h4, P2 r3 h4 →
  ∃ x7 : Int, r3 = some (zI x7) ∧
  zV RX7 cX7_order 3 none d Post Γ 197 [(0, zR 128), (1, zI v1), (2, zI w0)] [zI x7, zI 3, zR 138] h4) ∧
 (v1 = 98 →
  zV RX7 cX7_order 3 none d Post Γ 197 [(0, zR 128), (1, zI v1), (2, zI w0)] [zI 0, zI 3, zR 138] h))) :
    zV RX7 cX7_order 3 none d Post Γ 177 [(0, zR 128), (1, zI v1), (2, zI v2)] [zI w0] h := by
  refine z_istore_n (pc := 177) (ls' := [(2, _), (0, _), (1, _)]) dX7_order_177 rfl (by decide) rfl ?_
  refine z_aload_n (pc := 178) (n := 1) dX7_order_178 rfl rfl ?_
  refine z_getR (pc := 179) (q2 := 138) zo_Model rfl inT7 (i := 17) (by decide) wf_X7_45 rfl (fun _ _ => rfl) dX7_order_179 ?_
  refine z_iconst (pc := 182) (a := 3) dX7_order_182 rfl ?_
  refine z_iload_n (pc := 183) (n := 2) dX7_order_183 rfl rfl ?_
  refine z_bipush (pc := 184) (a := 98) dX7_order_184 rfl ?_
  refine z_icmp_ne (pc := 186) (tgt := 193) dX7_order_186 (by decide) (fun c => ?_) (fun c => ?_)
  · replace Q := Q.1 c
    refine z_aload_n (pc := 193) (n := 1) dX7_order_193 rfl rfl ?_
    obtain ⟨d1, P2, e5, s6, Q⟩ := Q
    refine z_callV (pc := 194) (M := mX7_digit) (as := []) (st := [_, _]) s6 zo_Model rfl wi_X7_digit wm_X7_digit ⟨by omega, by decide⟩ wl_X7_164 dX7_order_194 rfl (Nat.le_of_ble_eq_true rfl) rfl ?_
    intro r3 h4 s6
    obtain ⟨x7, rfl, Q⟩ := Q _ _ s6
    exact z_sub (ks := [1, 2, 0]) rfl Q
  · replace Q := Q.2 c
    refine z_iconst (pc := 189) (a := 0) dX7_order_189 rfl ?_
    refine z_goto (pc := 190) (tgt := 197) dX7_order_190 (by decide) ?_
    exact z_sub (ks := [1, 2, 0]) rfl Q
set_option maxHeartbeats 4000000 in
set_option maxRecDepth 100000 in
theorem k_X7_order_197 {d : Nat} {Post : Option zA → zH → Prop} {Γ : zCx} {h : zH} {v1 : Int} {v2 : Int} {w0 : Int} {w1 : Int}  (hd : 1 ≤ d) (Q :
 0 ≤ w1 ∧ w1 < 5 ∧
 ∀ h3 : zH, h3 = zu h 138 w1.toNat w0 →
 ((¬ v1 = 108 →
  ((¬ v1 = 119 →
   zV RX7 cX7_order 3 none d Post Γ 233 [(0, zR 128), (1, zI v1), (2, zI v2)] [zI 0] h3) ∧
  (v1 = 119 →
   ∃ (d4 : Nat) (P5 : Option zA → zH → Prop), d4 + 1 ≤ d ∧ zSp d4 mX7_sign [zR 128, zI 61, zI 61] h3 P5 ∧ ∀ r6 h7, P5 r6 h7 →
   ∃ x10 : Int, r6 = some (zI x10) ∧
   zV RX7 cX7_order 3 none d Post Γ 233 [(0, zR 128), (1, zI v1), (2, zI v2)] [zI x10] h7))) ∧
 (v1 = 108 →
  ∃ (d11 : Nat) (P12 : Option zA → zH → Prop), d11 + 1 ≤ d ∧ zSp d11 mX7_sign [zR 128, zI 47, zI 47] h3 P12 ∧ ∀ r13 h14, P12 r13 h14 →
  ∃ x17 : Int, r13 = some (zI x17) ∧
  zV RX7 cX7_order 3 none d Post Γ 233 [(0, zR 128), (1, zI v1), (2, zI v2)] [zI x17] h14))) :
    zV RX7 cX7_order 3 none d Post Γ 197 [(0, zR 128), (1, zI v1), (2, zI v2)] [zI w0, zI w1, zR 138] h := by
  obtain ⟨c1, c2, Q⟩ := Q
  refine z_iast (pc := 197) za_mtold c1 c2 dX7_order_197 ?_
  refine z_heap (fun h3 eh3 => ?_)
  replace Q := Q h3 eh3
  refine z_iload_n (pc := 198) (n := 1) dX7_order_198 rfl rfl ?_
  refine z_bipush (pc := 199) (a := 108) dX7_order_199 rfl ?_
  refine z_icmp_ne (pc := 201) (tgt := 215) dX7_order_201 (by decide) (fun c => ?_) (fun c => ?_)
  · replace Q := Q.1 c
    refine z_iload_n (pc := 215) (n := 1) dX7_order_215 rfl rfl ?_
    refine z_bipush (pc := 216) (a := 119) dX7_order_216 rfl ?_
    refine z_icmp_ne (pc := 218) (tgt := 232) dX7_order_218 (by decide) (fun c => ?_) (fun c => ?_)
    · replace Q := Q.1 c
      refine z_iconst (pc := 232) (a := 0) dX7_order_232 rfl ?_
      exact z_sub (ks := [0, 1, 2]) rfl Q
    · replace Q := Q.2 c
      refine z_aload_n (pc := 221) (n := 0) dX7_order_221 rfl rfl ?_
      refine z_bipush (pc := 222) (a := 61) dX7_order_222 rfl ?_
      refine z_bipush (pc := 224) (a := 61) dX7_order_224 rfl ?_
      obtain ⟨d4, P5, e8, s9, Q⟩ := Q
      refine z_callV (pc := 226) (M := mX7_sign) (as := [_, _]) (st := []) s9 zo_Model rfl wi_X7_sign wm_X7_sign ⟨by omega, by decide⟩ wl_X7_158 dX7_order_226 rfl (Nat.le_of_ble_eq_true rfl) rfl ?_
      intro r6 h7 s9
      obtain ⟨x10, rfl, Q⟩ := Q _ _ s9
      refine z_goto (pc := 229) (tgt := 233) dX7_order_229 (by decide) ?_
      exact z_sub (ks := [0, 1, 2]) rfl Q
  · replace Q := Q.2 c
    refine z_aload_n (pc := 204) (n := 0) dX7_order_204 rfl rfl ?_
    refine z_bipush (pc := 205) (a := 47) dX7_order_205 rfl ?_
    refine z_bipush (pc := 207) (a := 47) dX7_order_207 rfl ?_
    obtain ⟨d11, P12, e15, s16, Q⟩ := Q
    refine z_callV (pc := 209) (M := mX7_sign) (as := [_, _]) (st := []) s16 zo_Model rfl wi_X7_sign wm_X7_sign ⟨by omega, by decide⟩ wl_X7_158 dX7_order_209 rfl (Nat.le_of_ble_eq_true rfl) rfl ?_
    intro r13 h14 s16
    obtain ⟨x17, rfl, Q⟩ := Q _ _ s16
    refine z_goto (pc := 212) (tgt := 233) dX7_order_212 (by decide) ?_
    exact z_sub (ks := [0, 1, 2]) rfl Q
set_option maxHeartbeats 4000000 in
set_option maxRecDepth 100000 in
theorem k_X7_order_233 {d : Nat} {Post : Option zA → zH → Prop} {Γ : zCx} {h : zH} {v1 : Int} {v2 : Int} {w0 : Int}  (hd : 1 ≤ d) (Q :
 ((¬ v1 = 108 →
  ((¬ v1 = 119 →
   ∀ h1 : zH, h1 = zu h 138 4 0 →
   Post none h1) ∧
  (v1 = 119 →
   ∃ (d2 : Nat) (P3 : Option zA → zH → Prop), d2 + 1 ≤ d ∧ zSp d2 mX7_number [zR 128, zI 0, zI 999] h P3 ∧ ∀ r4 h5, P3 r4 h5 →
   ∃ x8 : Int, r4 = some (zI x8) ∧
   ∀ h9 : zH, h9 = zu h5 138 4 x8 →
   Post none h9))) ∧
 (v1 = 108 →
  ∃ (d10 : Nat) (P11 : Option zA → zH → Prop), d10 + 1 ≤ d ∧ zSp d10 mX7_number [zR 128, zI 1, zI 64] h P11 ∧ ∀ r12 h13, P11 r12 h13 →
  ∃ x16 : Int, r12 = some (zI x16) ∧
  ∀ h17 : zH, h17 = zu h13 138 4 x16 →
  Post none h17))) :
    zV RX7 cX7_order 3 none d Post Γ 233 [(0, zR 128), (1, zI v1), (2, zI v2)] [zI w0] h := by
  refine z_istore_n (pc := 233) (ls' := [(2, _), (0, _), (1, _)]) dX7_order_233 rfl (by decide) rfl ?_
  refine z_aload_n (pc := 234) (n := 1) dX7_order_234 rfl rfl ?_
  refine z_getR (pc := 235) (q2 := 138) zo_Model rfl inT7 (i := 17) (by decide) wf_X7_45 rfl (fun _ _ => rfl) dX7_order_235 ?_
  refine z_iconst (pc := 238) (a := 4) dX7_order_238 rfl ?_
  refine z_iload_n (pc := 239) (n := 2) dX7_order_239 rfl rfl ?_
  refine z_bipush (pc := 240) (a := 108) dX7_order_240 rfl ?_
  refine z_icmp_ne (pc := 242) (tgt := 255) dX7_order_242 (by decide) (fun c => ?_) (fun c => ?_)
  · replace Q := Q.1 c
    refine z_iload_n (pc := 255) (n := 2) dX7_order_255 rfl rfl ?_
    refine z_bipush (pc := 256) (a := 119) dX7_order_256 rfl ?_
    refine z_icmp_ne (pc := 258) (tgt := 272) dX7_order_258 (by decide) (fun c => ?_) (fun c => ?_)
    · replace Q := Q.1 c
      refine z_iconst (pc := 272) (a := 0) dX7_order_272 rfl ?_
      refine z_iast (pc := 273) za_mtold (by decide) (by decide) dX7_order_273 ?_
      refine z_heap (fun h1 eh1 => ?_)
      replace Q := Q h1 eh1
      exact z_vret (pc := 274) rfl dX7_order_274 Q
    · replace Q := Q.2 c
      refine z_aload_n (pc := 261) (n := 1) dX7_order_261 rfl rfl ?_
      refine z_iconst (pc := 262) (a := 0) dX7_order_262 rfl ?_
      refine z_sipush (pc := 263) (a := 999) dX7_order_263 rfl ?_
      obtain ⟨d2, P3, e6, s7, Q⟩ := Q
      refine z_callV (pc := 266) (M := mX7_number) (as := [_, _]) (st := [_, _]) s7 zo_Model rfl wi_X7_number wm_X7_number ⟨by omega, by decide⟩ wl_X7_161 dX7_order_266 rfl (Nat.le_of_ble_eq_true rfl) rfl ?_
      intro r4 h5 s7
      obtain ⟨x8, rfl, Q⟩ := Q _ _ s7
      refine z_goto (pc := 269) (tgt := 273) dX7_order_269 (by decide) ?_
      refine z_iast (pc := 273) za_mtold (by decide) (by decide) dX7_order_273 ?_
      refine z_heap (fun h9 eh9 => ?_)
      replace Q := Q h9 eh9
      exact z_vret (pc := 274) rfl dX7_order_274 Q
  · replace Q := Q.2 c
    refine z_aload_n (pc := 245) (n := 1) dX7_order_245 rfl rfl ?_
    refine z_iconst (pc := 246) (a := 1) dX7_order_246 rfl ?_
    refine z_bipush (pc := 247) (a := 64) dX7_order_247 rfl ?_
    obtain ⟨d10, P11, e14, s15, Q⟩ := Q
    refine z_callV (pc := 249) (M := mX7_number) (as := [_, _]) (st := [_, _]) s15 zo_Model rfl wi_X7_number wm_X7_number ⟨by omega, by decide⟩ wl_X7_161 dX7_order_249 rfl (Nat.le_of_ble_eq_true rfl) rfl ?_
    intro r12 h13 s15
    obtain ⟨x16, rfl, Q⟩ := Q _ _ s15
    refine z_goto (pc := 252) (tgt := 273) dX7_order_252 (by decide) ?_
    refine z_iast (pc := 273) za_mtold (by decide) (by decide) dX7_order_273 ?_
    refine z_heap (fun h17 eh17 => ?_)
    replace Q := Q h17 eh17
    exact z_vret (pc := 274) rfl dX7_order_274 Q
set_option maxHeartbeats 4000000 in
set_option maxRecDepth 100000 in
theorem k_X7_part_0 {d : Nat} {Post : Option zA → zH → Prop} {Γ : zCx} {h : zH} {a1 : Int} {a2 : Int} {a3 : Int}  (hd : 4 ≤ d) (Q :
 (((0 ≤ a1 ∧ a1 ≤ 5) ∧ 0 ≤ a2 ∧ a2 ≤ 5 →
  ((a3 = 0 →
   (0 ≤ a1 ∧ a1 ≤ 5) ∧
   (0 ≤ a2 ∧ a2 ≤ 5) ∧
   0 ≤ (6 * a2 + a1) ∧ (6 * a2 + a1) < 336 ∧
   Post (some (zI (h 129 (6 * a2 + a1).toNat))) h) ∧
  (a3 = 1 →
   ∃ (d5 : Nat) (P6 : Option zA → zH → Prop), d5 + 1 ≤ d ∧ zSp d5 mX7_sum [zR 128, zI a1, zI a2, zI a3] h P6 ∧ ∀ r7 h8, P6 r7 h8 →
   ∃ x11 : Int, r7 = some (zI x11) ∧
   Post (some (zI x11)) h8) ∧
  (a3 = 2 →
   ∃ (d12 : Nat) (P13 : Option zA → zH → Prop), d12 + 1 ≤ d ∧ zSp d12 mX7_sum [zR 128, zI a1, zI a2, zI a3] h P13 ∧ ∀ r14 h15, P13 r14 h15 →
   ∃ x18 : Int, r14 = some (zI x18) ∧
   Post (some (zI x18)) h15) ∧
  (a3 = 3 →
   (0 ≤ a1 ∧ a1 ≤ 5) ∧
   (0 ≤ a2 ∧ a2 ≤ 5) ∧
   0 ≤ (36 + 6 * a2 + a1) ∧ (36 + 6 * a2 + a1) < 336 ∧
   Post (some (zI (h 129 (36 + 6 * a2 + a1).toNat))) h) ∧
  (a3 = 4 →
   ∃ (d23 : Nat) (P24 : Option zA → zH → Prop), d23 + 1 ≤ d ∧ zSp d23 mX7_placeOfClaim [zR 128, zI a1, zI a2] h P24 ∧ ∀ r25 h26, P24 r25 h26 →
   ∃ x29 : Int, r25 = some (zI x29) ∧
   Post (some (zI x29)) h26) ∧
  (a3 = 5 →
   ∃ (d30 : Nat) (P31 : Option zA → zH → Prop), d30 + 1 ≤ d ∧ zSp d30 mX7_wouldGather [zR 128, zI a1, zI a2] h P31 ∧ ∀ r32 h33, P31 r32 h33 →
   ∃ x36 : Int, r32 = some (zI x36) ∧
   Post (some (zI x36)) h33) ∧
  ((a3 < 0 ∨ 5 < a3) →
   Post (some (zI (-2))) h))) ∧
 (¬ ((0 ≤ a1 ∧ a1 ≤ 5) ∧ 0 ≤ a2 ∧ a2 ≤ 5) →
  Post (some (zI (-1))) h))) :
    zV RX7 cX7_part 4 (some .int) d Post Γ 0 [(0, zR 128), (1, zI a1), (2, zI a2), (3, zI a3)] [] h := by
  refine z_iload_n (pc := 0) (n := 1) dX7_part_0 rfl rfl ?_
  refine z_iload_n (pc := 1) (n := 2) dX7_part_1 rfl rfl ?_
  refine z_callS (pc := 2) (M := mX7_areBoth) (as := [_, _]) (st := []) c_X7_areBoth wt_X7_areBoth wm_X7_areBoth ⟨by omega, by decide⟩ wl_X7_106 dX7_part_2 rfl (Nat.le_of_ble_eq_true rfl) rfl ?_
  rintro _ _ ⟨rfl, rfl⟩
  refine z_ifb_ne (pc := 5) (tgt := 10) dX7_part_5 (by decide) (fun c => ?_) (fun c => ?_)
  · replace Q := Q.1 c
    refine z_iload_n (pc := 10) (n := 3) dX7_part_10 rfl rfl ?_
    rcases (show a3 = 0 ∨ a3 = 1 ∨ a3 = 2 ∨ a3 = 3 ∨ a3 = 4 ∨ a3 = 5 ∨ (a3 < 0 ∨ 5 < a3) by omega) with c | c | c | c | c | c | c
    · replace Q := Q.1 c
      refine z_tableIn (pc := 11) (n := 0) (tgt := 48) dX7_part_11 (by omega) (by decide) rfl (by decide) ?_
      refine z_aload_n (pc := 48) (n := 0) dX7_part_48 rfl rfl ?_
      refine z_getR (pc := 49) (q2 := 129) zo_Model rfl inT7 (i := 0) (by decide) wf_X7_7 rfl (fun _ _ => rfl) dX7_part_49 ?_
      refine z_iload_n (pc := 52) (n := 1) dX7_part_52 rfl rfl ?_
      refine z_iload_n (pc := 53) (n := 2) dX7_part_53 rfl rfl ?_
      obtain ⟨c1, Q⟩ := Q
      obtain ⟨c2, Q⟩ := Q
      refine z_callS (pc := 54) (M := mX7_held) (as := [_, _]) (st := [_]) (c_X7_held c1 c2) wt_X7_held wm_X7_held ⟨by omega, by decide⟩ wl_X7_51 dX7_part_54 rfl (Nat.le_of_ble_eq_true rfl) rfl ?_
      rintro _ _ ⟨rfl, rfl⟩
      obtain ⟨c3, c4, Q⟩ := Q
      refine z_iald (pc := 57) za_ms c3 c4 dX7_part_57 ?_
      exact z_iret (pc := 58) rfl dX7_part_58 Q
    · replace Q := Q.2.1 c
      refine z_tableIn (pc := 11) (n := 1) (tgt := 59) dX7_part_11 (by omega) (by decide) rfl (by decide) ?_
      refine z_aload_n (pc := 59) (n := 0) dX7_part_59 rfl rfl ?_
      refine z_iload_n (pc := 60) (n := 1) dX7_part_60 rfl rfl ?_
      refine z_iload_n (pc := 61) (n := 2) dX7_part_61 rfl rfl ?_
      refine z_iload_n (pc := 62) (n := 3) dX7_part_62 rfl rfl ?_
      obtain ⟨d5, P6, e9, s10, Q⟩ := Q
      refine z_callV (pc := 63) (M := mX7_sum) (as := [_, _, _]) (st := []) s10 zo_Model rfl wi_X7_sum wm_X7_sum ⟨by omega, by decide⟩ wl_X7_190 dX7_part_63 rfl (Nat.le_of_ble_eq_true rfl) rfl ?_
      intro r7 h8 s10
      obtain ⟨x11, rfl, Q⟩ := Q _ _ s10
      exact z_iret (pc := 66) rfl dX7_part_66 Q
    · replace Q := Q.2.2.1 c
      refine z_tableIn (pc := 11) (n := 2) (tgt := 59) dX7_part_11 (by omega) (by decide) rfl (by decide) ?_
      refine z_aload_n (pc := 59) (n := 0) dX7_part_59 rfl rfl ?_
      refine z_iload_n (pc := 60) (n := 1) dX7_part_60 rfl rfl ?_
      refine z_iload_n (pc := 61) (n := 2) dX7_part_61 rfl rfl ?_
      refine z_iload_n (pc := 62) (n := 3) dX7_part_62 rfl rfl ?_
      obtain ⟨d12, P13, e16, s17, Q⟩ := Q
      refine z_callV (pc := 63) (M := mX7_sum) (as := [_, _, _]) (st := []) s17 zo_Model rfl wi_X7_sum wm_X7_sum ⟨by omega, by decide⟩ wl_X7_190 dX7_part_63 rfl (Nat.le_of_ble_eq_true rfl) rfl ?_
      intro r14 h15 s17
      obtain ⟨x18, rfl, Q⟩ := Q _ _ s17
      exact z_iret (pc := 66) rfl dX7_part_66 Q
    · replace Q := Q.2.2.2.1 c
      refine z_tableIn (pc := 11) (n := 3) (tgt := 67) dX7_part_11 (by omega) (by decide) rfl (by decide) ?_
      refine z_aload_n (pc := 67) (n := 0) dX7_part_67 rfl rfl ?_
      refine z_getR (pc := 68) (q2 := 129) zo_Model rfl inT7 (i := 0) (by decide) wf_X7_7 rfl (fun _ _ => rfl) dX7_part_68 ?_
      refine z_iload_n (pc := 71) (n := 1) dX7_part_71 rfl rfl ?_
      refine z_iload_n (pc := 72) (n := 2) dX7_part_72 rfl rfl ?_
      obtain ⟨c19, Q⟩ := Q
      obtain ⟨c20, Q⟩ := Q
      refine z_callS (pc := 73) (M := mX7_holds) (as := [_, _]) (st := [_]) (c_X7_holds c19 c20) wt_X7_holds wm_X7_holds ⟨by omega, by decide⟩ wl_X7_72 dX7_part_73 rfl (Nat.le_of_ble_eq_true rfl) rfl ?_
      rintro _ _ ⟨rfl, rfl⟩
      obtain ⟨c21, c22, Q⟩ := Q
      refine z_iald (pc := 76) za_ms c21 c22 dX7_part_76 ?_
      exact z_iret (pc := 77) rfl dX7_part_77 Q
    · replace Q := Q.2.2.2.2.1 c
      refine z_tableIn (pc := 11) (n := 4) (tgt := 78) dX7_part_11 (by omega) (by decide) rfl (by decide) ?_
      refine z_aload_n (pc := 78) (n := 0) dX7_part_78 rfl rfl ?_
      refine z_iload_n (pc := 79) (n := 1) dX7_part_79 rfl rfl ?_
      refine z_iload_n (pc := 80) (n := 2) dX7_part_80 rfl rfl ?_
      obtain ⟨d23, P24, e27, s28, Q⟩ := Q
      refine z_callV (pc := 81) (M := mX7_placeOfClaim) (as := [_, _]) (st := []) s28 zo_Model rfl wi_X7_placeOfClaim wm_X7_placeOfClaim ⟨by omega, by decide⟩ wl_X7_135 dX7_part_81 rfl (Nat.le_of_ble_eq_true rfl) rfl ?_
      intro r25 h26 s28
      obtain ⟨x29, rfl, Q⟩ := Q _ _ s28
      exact z_iret (pc := 84) rfl dX7_part_84 Q
    · replace Q := Q.2.2.2.2.2.1 c
      refine z_tableIn (pc := 11) (n := 5) (tgt := 85) dX7_part_11 (by omega) (by decide) rfl (by decide) ?_
      refine z_aload_n (pc := 85) (n := 0) dX7_part_85 rfl rfl ?_
      refine z_iload_n (pc := 86) (n := 1) dX7_part_86 rfl rfl ?_
      refine z_iload_n (pc := 87) (n := 2) dX7_part_87 rfl rfl ?_
      obtain ⟨d30, P31, e34, s35, Q⟩ := Q
      refine z_callV (pc := 88) (M := mX7_wouldGather) (as := [_, _]) (st := []) s35 zo_Model rfl wi_X7_wouldGather wm_X7_wouldGather ⟨by omega, by decide⟩ wl_X7_193 dX7_part_88 rfl (Nat.le_of_ble_eq_true rfl) rfl ?_
      intro r32 h33 s35
      obtain ⟨x36, rfl, Q⟩ := Q _ _ s35
      exact z_iret (pc := 91) rfl dX7_part_91 Q
    · replace Q := Q.2.2.2.2.2.2 c
      refine z_tableOut (pc := 11) (tgt := 92) dX7_part_11 c (by decide) ?_
      refine z_bipush (pc := 92) (a := -2) dX7_part_92 rfl ?_
      exact z_iret (pc := 94) rfl dX7_part_94 Q
  · replace Q := Q.2 c
    refine z_iconst (pc := 8) (a := -1) dX7_part_8 rfl ?_
    exact z_iret (pc := 9) rfl dX7_part_9 Q
set_option maxHeartbeats 4000000 in
set_option maxRecDepth 100000 in
theorem k_X7_perform_0 {d : Nat} {Post : Option zA → zH → Prop} {Γ : zCx} {h : zH}   (hd : 1 ≤ d) (Q :
 ∃ (d1 : Nat) (P2 : Option zA → zH → Prop), d1 + 1 ≤ d ∧ zSp d1 mX7_go [zR 128, zI 0] h P2 ∧ ∀ r3 h4, P2 r3 h4 →
 ∃ x7 : Int, r3 = some (zI x7) ∧
 (((h4 128 16) = 0 →
  ∃ (d8 : Nat) (P9 : Option zA → zH → Prop), d8 + 1 ≤ d ∧ zSp d8 mX7_putAside [zR 128] h4 P9 ∧ ∀ r10 h11, P9 r10 h11 →
  r10 = none ∧
  ∃ (d14 : Nat) (P15 : Option zA → zH → Prop), d14 + 1 ≤ d ∧ zSp d14 mX7_go [zR 128, zI 1] h11 P15 ∧ ∀ r16 h17, P15 r16 h17 →
  ∃ x20 : Int, r16 = some (zI x20) ∧
  ∃ (d21 : Nat) (P22 : Option zA → zH → Prop), d21 + 1 ≤ d ∧ zSp d21 mX7_putBack [zR 128] h17 P22 ∧ ∀ r23 h24, P22 r23 h24 →
  r23 = none ∧
  ((0 ≤ (h24 128 18) →
   ∃ (d27 : Nat) (P28 : Option zA → zH → Prop), d27 + 1 ≤ d ∧ zSp d27 mX7_know [zR 128] h24 P28 ∧ ∀ r29 h30, P28 r29 h30 →
   r29 = none ∧
   ∃ (d33 : Nat) (P34 : Option zA → zH → Prop), d33 + 1 ≤ d ∧ zSp d33 mX7_go [zR 128, zI 1] h30 P34 ∧ ∀ r35 h36, P34 r35 h36 →
   ∃ x39 : Int, r35 = some (zI x39) ∧
   Post (some (zI x39)) h36) ∧
  (¬ 0 ≤ (h24 128 18) →
   ∀ h40 : zH, h40 = zu h24 128 9 x20 →
   ∀ h41 : zH, h41 = zu h40 128 10 (h40 128 18) →
   Post (some (zI (-4))) h41))) ∧
 (¬ (h4 128 16) = 0 →
  Post (some (zI (zwr ((-100) - (h4 128 15))))) h4))) :
    zV RX7 cX7_perform 2 (some .int) d Post Γ 0 [(0, zR 128)] [] h := by
  refine z_aload_n (pc := 0) (n := 0) dX7_perform_0 rfl rfl ?_
  refine z_iconst (pc := 1) (a := 0) dX7_perform_1 rfl ?_
  obtain ⟨d1, P2, e5, s6, Q⟩ := Q
  refine z_callV (pc := 2) (M := mX7_go) (as := [_]) (st := []) s6 zo_Model rfl wi_X7_go wm_X7_go ⟨by omega, by decide⟩ wl_X7_177 dX7_perform_2 rfl (Nat.le_of_ble_eq_true rfl) rfl ?_
  intro r3 h4 s6
  obtain ⟨x7, rfl, Q⟩ := Q _ _ s6
  refine z_istore_n (pc := 5) (ls' := [(1, _), (0, _)]) dX7_perform_5 rfl (by decide) rfl ?_
  refine z_aload_n (pc := 6) (n := 1) dX7_perform_6 rfl rfl ?_
  refine z_getI (pc := 7) zo_Model rfl inT7 (i := 16) (by decide) wf_X7_154 rfl (fun _ _ => rfl) dX7_perform_7 ?_
  refine z_if_eq (pc := 10) (tgt := 21) dX7_perform_10 (by decide) (fun c => ?_) (fun c => ?_)
  · replace Q := Q.1 c
    refine z_aload_n (pc := 21) (n := 1) dX7_perform_21 rfl rfl ?_
    obtain ⟨d8, P9, e12, s13, Q⟩ := Q
    refine z_callV (pc := 22) (M := mX7_putAside) (as := []) (st := []) s13 zo_Model rfl wi_X7_putAside wm_X7_putAside ⟨by omega, by decide⟩ wl_X7_123 dX7_perform_22 rfl (Nat.le_of_ble_eq_true rfl) rfl ?_
    intro r10 h11 s13
    obtain ⟨rfl, Q⟩ := Q _ _ s13
    refine z_aload_n (pc := 25) (n := 1) dX7_perform_25 rfl rfl ?_
    refine z_iconst (pc := 26) (a := 1) dX7_perform_26 rfl ?_
    obtain ⟨d14, P15, e18, s19, Q⟩ := Q
    refine z_callV (pc := 27) (M := mX7_go) (as := [_]) (st := []) s19 zo_Model rfl wi_X7_go wm_X7_go ⟨by omega, by decide⟩ wl_X7_177 dX7_perform_27 rfl (Nat.le_of_ble_eq_true rfl) rfl ?_
    intro r16 h17 s19
    obtain ⟨x20, rfl, Q⟩ := Q _ _ s19
    refine z_istore_n (pc := 30) (ls' := [(1, _), (0, _)]) dX7_perform_30 rfl (by decide) rfl ?_
    refine z_aload_n (pc := 31) (n := 1) dX7_perform_31 rfl rfl ?_
    obtain ⟨d21, P22, e25, s26, Q⟩ := Q
    refine z_callV (pc := 32) (M := mX7_putBack) (as := []) (st := []) s26 zo_Model rfl wi_X7_putBack wm_X7_putBack ⟨by omega, by decide⟩ wl_X7_126 dX7_perform_32 rfl (Nat.le_of_ble_eq_true rfl) rfl ?_
    intro r23 h24 s26
    obtain ⟨rfl, Q⟩ := Q _ _ s26
    refine z_aload_n (pc := 35) (n := 1) dX7_perform_35 rfl rfl ?_
    refine z_getI (pc := 36) zo_Model rfl inT7 (i := 18) (by decide) wf_X7_168 rfl (fun _ _ => rfl) dX7_perform_36 ?_
    refine z_if_ge (pc := 39) (tgt := 58) dX7_perform_39 (by decide) (fun c => ?_) (fun c => ?_)
    · replace Q := Q.1 c
      refine z_aload_n (pc := 58) (n := 1) dX7_perform_58 rfl rfl ?_
      obtain ⟨d27, P28, e31, s32, Q⟩ := Q
      refine z_callV (pc := 59) (M := mX7_know) (as := []) (st := []) s32 zo_Model rfl wi_X7_know wm_X7_know ⟨by omega, by decide⟩ wl_X7_114 dX7_perform_59 rfl (Nat.le_of_ble_eq_true rfl) rfl ?_
      intro r29 h30 s32
      obtain ⟨rfl, Q⟩ := Q _ _ s32
      refine z_aload_n (pc := 62) (n := 1) dX7_perform_62 rfl rfl ?_
      refine z_iconst (pc := 63) (a := 1) dX7_perform_63 rfl ?_
      obtain ⟨d33, P34, e37, s38, Q⟩ := Q
      refine z_callV (pc := 64) (M := mX7_go) (as := [_]) (st := []) s38 zo_Model rfl wi_X7_go wm_X7_go ⟨by omega, by decide⟩ wl_X7_177 dX7_perform_64 rfl (Nat.le_of_ble_eq_true rfl) rfl ?_
      intro r35 h36 s38
      obtain ⟨x39, rfl, Q⟩ := Q _ _ s38
      exact z_iret (pc := 67) rfl dX7_perform_67 Q
    · replace Q := Q.2 c
      refine z_aload_n (pc := 42) (n := 1) dX7_perform_42 rfl rfl ?_
      refine z_iload_n (pc := 43) (n := 0) dX7_perform_43 rfl rfl ?_
      refine z_putI (pc := 44) zo_Model rfl inT7 (i := 9) (by decide) wf_X7_28 rfl tyX7 tyX7_ok nmX7 rfl (fun _ _ => Nat.le_of_ble_eq_true rfl) (fun _ _ _ => rfl) rfl dX7_perform_44 ?_
      refine z_heap (fun h40 eh40 => ?_)
      replace Q := Q h40 eh40
      refine z_aload_n (pc := 47) (n := 1) dX7_perform_47 rfl rfl ?_
      refine z_aload_n (pc := 48) (n := 1) dX7_perform_48 rfl rfl ?_
      refine z_getI (pc := 49) zo_Model rfl inT7 (i := 18) (by decide) wf_X7_168 rfl (fun _ _ => rfl) dX7_perform_49 ?_
      refine z_putI (pc := 52) zo_Model rfl inT7 (i := 10) (by decide) wf_X7_32 rfl tyX7 tyX7_ok nmX7 rfl (fun _ _ => Nat.le_of_ble_eq_true rfl) (fun _ _ _ => rfl) rfl dX7_perform_52 ?_
      refine z_heap (fun h41 eh41 => ?_)
      replace Q := Q h41 eh41
      refine z_bipush (pc := 55) (a := -4) dX7_perform_55 rfl ?_
      exact z_iret (pc := 57) rfl dX7_perform_57 Q
  · replace Q := Q.2 c
    refine z_bipush (pc := 13) (a := -100) dX7_perform_13 rfl ?_
    refine z_aload_n (pc := 15) (n := 1) dX7_perform_15 rfl rfl ?_
    refine z_getI (pc := 16) zo_Model rfl inT7 (i := 15) (by decide) wf_X7_151 rfl (fun _ _ => rfl) dX7_perform_16 ?_
    refine z_isub (pc := 19) dX7_perform_19 ?_
    exact z_iret (pc := 20) rfl dX7_perform_20 Q
set_option maxHeartbeats 4000000 in
set_option maxRecDepth 100000 in
theorem k_X7_placeOf_0 {d : Nat} {Post : Option zA → zH → Prop} {Γ : zCx} {h : zH} {a1 : Int}  (hd : 1 ≤ d) (Q :
 zV RX7 cX7_placeOf 3 (some .int) d Post Γ 2 [(0, zR 128), (1, zI a1), (2, zI 0)] [] h) :
    zV RX7 cX7_placeOf 3 (some .int) d Post Γ 0 [(0, zR 128), (1, zI a1)] [] h := by
  refine z_iconst (pc := 0) (a := 0) dX7_placeOf_0 rfl ?_
  refine z_istore_n (pc := 1) (ls' := [(2, _), (0, _), (1, _)]) dX7_placeOf_1 rfl (by decide) rfl ?_
  exact z_sub (ks := [1, 2, 0]) rfl Q
set_option maxHeartbeats 4000000 in
set_option maxRecDepth 100000 in
theorem k_X7_placeOf_2 {d : Nat} {Post : Option zA → zH → Prop} {Γ : zCx} {h : zH} {v1 : Int} {v2 : Int}  (hd : 2 ≤ d) (Q :
 (((h 129 132) ≤ v2 →
  Post (some (zI (-5))) h) ∧
 (¬ (h 129 132) ≤ v2 →
  (-1 ≤ v2 ∧ v2 ≤ 40) ∧
  0 ≤ (136 + 5 * v2 + 0) ∧ (136 + 5 * v2 + 0) < 336 ∧
  ((¬ (h 129 (136 + 5 * v2 + 0).toNat) = v1 →
   ∀ x4 : Int, x4 = zwr (v2 + 1) →
   zV RX7 cX7_placeOf 3 (some .int) d Post Γ 2 [(0, zR 128), (1, zI v1), (2, zI x4)] [] h) ∧
  ((h 129 (136 + 5 * v2 + 0).toNat) = v1 →
   Post (some (zI v2)) h))))) :
    zV RX7 cX7_placeOf 3 (some .int) d Post Γ 2 [(0, zR 128), (1, zI v1), (2, zI v2)] [] h := by
  refine z_iload_n (pc := 2) (n := 2) dX7_placeOf_2 rfl rfl ?_
  refine z_aload_n (pc := 3) (n := 0) dX7_placeOf_3 rfl rfl ?_
  refine z_getR (pc := 4) (q2 := 129) zo_Model rfl inT7 (i := 0) (by decide) wf_X7_7 rfl (fun _ _ => rfl) dX7_placeOf_4 ?_
  refine z_sipush (pc := 7) (a := 132) dX7_placeOf_7 rfl ?_
  refine z_iald (pc := 10) za_ms (by decide) (by decide) dX7_placeOf_10 ?_
  refine z_icmp_ge (pc := 11) (tgt := 36) dX7_placeOf_11 (by decide) (fun c => ?_) (fun c => ?_)
  · replace Q := Q.1 c
    refine z_bipush (pc := 36) (a := -5) dX7_placeOf_36 rfl ?_
    exact z_iret (pc := 38) rfl dX7_placeOf_38 Q
  · replace Q := Q.2 c
    refine z_aload_n (pc := 14) (n := 0) dX7_placeOf_14 rfl rfl ?_
    refine z_getR (pc := 15) (q2 := 129) zo_Model rfl inT7 (i := 0) (by decide) wf_X7_7 rfl (fun _ _ => rfl) dX7_placeOf_15 ?_
    refine z_iload_n (pc := 18) (n := 2) dX7_placeOf_18 rfl rfl ?_
    refine z_iconst (pc := 19) (a := 0) dX7_placeOf_19 rfl ?_
    obtain ⟨c1, Q⟩ := Q
    refine z_callS (pc := 20) (M := mX7_of) (as := [_, _]) (st := [_]) (c_X7_of c1 (by decide)) wt_X7_of wm_X7_of ⟨by omega, by decide⟩ wl_X7_69 dX7_placeOf_20 rfl (Nat.le_of_ble_eq_true rfl) rfl ?_
    rintro _ _ ⟨rfl, rfl⟩
    obtain ⟨c2, c3, Q⟩ := Q
    refine z_iald (pc := 23) za_ms c2 c3 dX7_placeOf_23 ?_
    refine z_iload_n (pc := 24) (n := 1) dX7_placeOf_24 rfl rfl ?_
    refine z_icmp_ne (pc := 25) (tgt := 30) dX7_placeOf_25 (by decide) (fun c => ?_) (fun c => ?_)
    · replace Q := Q.1 c
      refine z_iincg (pc := 30) (n := 2) (lf := fun y => [(2, zI y), (0, _), (1, _)]) dX7_placeOf_30 rfl (by decide) (fun _ => rfl) (fun x4 ex4 => ?_)
      replace Q := Q x4 ex4
      refine z_goto (pc := 33) (tgt := 2) dX7_placeOf_33 (by decide) ?_
      exact z_sub (ks := [1, 2, 0]) rfl Q
    · replace Q := Q.2 c
      refine z_iload_n (pc := 28) (n := 2) dX7_placeOf_28 rfl rfl ?_
      exact z_iret (pc := 29) rfl dX7_placeOf_29 Q
set_option maxHeartbeats 4000000 in
set_option maxRecDepth 100000 in
theorem k_X7_placeOfClaim_0 {d : Nat} {Post : Option zA → zH → Prop} {Γ : zCx} {h : zH} {a1 : Int} {a2 : Int}  (hd : 1 ≤ d) (Q :
 zV RX7 cX7_placeOfClaim 5 (some .int) d Post Γ 6 [(0, zR 128), (1, zI a1), (2, zI a2), (3, zI (-5)), (4, zI 0)] [] h) :
    zV RX7 cX7_placeOfClaim 5 (some .int) d Post Γ 0 [(0, zR 128), (1, zI a1), (2, zI a2)] [] h := by
  refine z_bipush (pc := 0) (a := -5) dX7_placeOfClaim_0 rfl ?_
  refine z_istore_n (pc := 2) (ls' := [(3, _), (0, _), (1, _), (2, _)]) dX7_placeOfClaim_2 rfl (by decide) rfl ?_
  refine z_iconst (pc := 3) (a := 0) dX7_placeOfClaim_3 rfl ?_
  refine z_istore (pc := 4) (ls' := [(4, _), (3, _), (0, _), (1, _), (2, _)]) dX7_placeOfClaim_4 (by decide) rfl ?_
  exact z_sub (ks := [2, 3, 4, 1, 0]) rfl Q
set_option maxHeartbeats 4000000 in
set_option maxRecDepth 100000 in
theorem k_X7_placeOfClaim_6 {d : Nat} {Post : Option zA → zH → Prop} {Γ : zCx} {h : zH} {v1 : Int} {v2 : Int} {v3 : Int} {v4 : Int}  (hd : 1 ≤ d) (Q :
 0 ≤ (zwr (108 + v2)) ∧ (zwr (108 + v2)) < 336 ∧
 (((h 129 (zwr (108 + v2)).toNat) ≤ v4 →
  Post (some (zI v3)) h) ∧
 (¬ (h 129 (zwr (108 + v2)).toNat) ≤ v4 →
  0 ≤ (zwr ((zwr (72 + (zwr (6 * v2)))) + v4)) ∧ (zwr ((zwr (72 + (zwr (6 * v2)))) + v4)) < 336 ∧
  ((¬ (h 129 (zwr ((zwr (72 + (zwr (6 * v2)))) + v4)).toNat) = v1 →
   ∀ x5 : Int, x5 = zwr (v4 + 1) →
   zV RX7 cX7_placeOfClaim 5 (some .int) d Post Γ 6 [(0, zR 128), (1, zI v1), (2, zI v2), (3, zI v3), (4, zI x5)] [] h) ∧
  ((h 129 (zwr ((zwr (72 + (zwr (6 * v2)))) + v4)).toNat) = v1 →
   ∀ x6 : Int, x6 = zwr (v4 + 1) →
   zV RX7 cX7_placeOfClaim 5 (some .int) d Post Γ 6 [(0, zR 128), (1, zI v1), (2, zI v2), (3, zI v4), (4, zI x6)] [] h))))) :
    zV RX7 cX7_placeOfClaim 5 (some .int) d Post Γ 6 [(0, zR 128), (1, zI v1), (2, zI v2), (3, zI v3), (4, zI v4)] [] h := by
  refine z_iload (pc := 6) (n := 4) dX7_placeOfClaim_6 rfl ?_
  refine z_aload_n (pc := 8) (n := 0) dX7_placeOfClaim_8 rfl rfl ?_
  refine z_getR (pc := 9) (q2 := 129) zo_Model rfl inT7 (i := 0) (by decide) wf_X7_7 rfl (fun _ _ => rfl) dX7_placeOfClaim_9 ?_
  refine z_bipush (pc := 12) (a := 108) dX7_placeOfClaim_12 rfl ?_
  refine z_iload_n (pc := 14) (n := 2) dX7_placeOfClaim_14 rfl rfl ?_
  refine z_iadd (pc := 15) dX7_placeOfClaim_15 ?_
  obtain ⟨c1, c2, Q⟩ := Q
  refine z_iald (pc := 16) za_ms c1 c2 dX7_placeOfClaim_16 ?_
  refine z_icmp_ge (pc := 17) (tgt := 52) dX7_placeOfClaim_17 (by decide) (fun c => ?_) (fun c => ?_)
  · replace Q := Q.1 c
    refine z_iload_n (pc := 52) (n := 3) dX7_placeOfClaim_52 rfl rfl ?_
    exact z_iret (pc := 53) rfl dX7_placeOfClaim_53 Q
  · replace Q := Q.2 c
    refine z_aload_n (pc := 20) (n := 0) dX7_placeOfClaim_20 rfl rfl ?_
    refine z_getR (pc := 21) (q2 := 129) zo_Model rfl inT7 (i := 0) (by decide) wf_X7_7 rfl (fun _ _ => rfl) dX7_placeOfClaim_21 ?_
    refine z_bipush (pc := 24) (a := 72) dX7_placeOfClaim_24 rfl ?_
    refine z_bipush (pc := 26) (a := 6) dX7_placeOfClaim_26 rfl ?_
    refine z_iload_n (pc := 28) (n := 2) dX7_placeOfClaim_28 rfl rfl ?_
    refine z_imul (pc := 29) dX7_placeOfClaim_29 ?_
    refine z_iadd (pc := 30) dX7_placeOfClaim_30 ?_
    refine z_iload (pc := 31) (n := 4) dX7_placeOfClaim_31 rfl ?_
    refine z_iadd (pc := 33) dX7_placeOfClaim_33 ?_
    obtain ⟨c3, c4, Q⟩ := Q
    refine z_iald (pc := 34) za_ms c3 c4 dX7_placeOfClaim_34 ?_
    refine z_iload_n (pc := 35) (n := 1) dX7_placeOfClaim_35 rfl rfl ?_
    refine z_icmp_ne (pc := 36) (tgt := 44) dX7_placeOfClaim_36 (by decide) (fun c => ?_) (fun c => ?_)
    · replace Q := Q.1 c
      refine z_iload_n (pc := 44) (n := 3) dX7_placeOfClaim_44 rfl rfl ?_
      refine z_istore_n (pc := 45) (ls' := [(3, _), (0, _), (1, _), (2, _), (4, _)]) dX7_placeOfClaim_45 rfl (by decide) rfl ?_
      refine z_iincg (pc := 46) (n := 4) (lf := fun y => [(4, zI y), (3, _), (0, _), (1, _), (2, _)]) dX7_placeOfClaim_46 rfl (by decide) (fun _ => rfl) (fun x5 ex5 => ?_)
      replace Q := Q x5 ex5
      refine z_goto (pc := 49) (tgt := 6) dX7_placeOfClaim_49 (by decide) ?_
      exact z_sub (ks := [2, 3, 4, 1, 0]) rfl Q
    · replace Q := Q.2 c
      refine z_iload (pc := 39) (n := 4) dX7_placeOfClaim_39 rfl ?_
      refine z_goto (pc := 41) (tgt := 45) dX7_placeOfClaim_41 (by decide) ?_
      refine z_istore_n (pc := 45) (ls' := [(3, _), (0, _), (1, _), (2, _), (4, _)]) dX7_placeOfClaim_45 rfl (by decide) rfl ?_
      refine z_iincg (pc := 46) (n := 4) (lf := fun y => [(4, zI y), (3, _), (0, _), (1, _), (2, _)]) dX7_placeOfClaim_46 rfl (by decide) (fun _ => rfl) (fun x6 ex6 => ?_)
      replace Q := Q x6 ex6
      refine z_goto (pc := 49) (tgt := 6) dX7_placeOfClaim_49 (by decide) ?_
      exact z_sub (ks := [2, 3, 4, 1, 0]) rfl Q
