/-! walks of methods, from cut to cut (printed by wip/gen/genk.py) -/
set_option maxHeartbeats 4000000 in
set_option maxRecDepth 100000 in
theorem k_X7_agentsOf_0 {d : Nat} {Post : Option zA → zH → Prop} {Γ : zCx} {h : zH} {a1 : Int} {a2 : Int}  (hd : 1 ≤ d) (Q :
 zV RX7 cX7_agentsOf 5 (some .int) d Post Γ 5 [(0, zR 128), (1, zI a1), (2, zI a2), (3, zI 0), (4, zI 0)] [] h) :
    zV RX7 cX7_agentsOf 5 (some .int) d Post Γ 0 [(0, zR 128), (1, zI a1), (2, zI a2)] [] h := by
  refine z_iconst (pc := 0) (a := 0) dX7_agentsOf_0 rfl ?_
  refine z_istore_n (pc := 1) (ls' := [(3, _), (0, _), (1, _), (2, _)]) dX7_agentsOf_1 rfl (by decide) rfl ?_
  refine z_iconst (pc := 2) (a := 0) dX7_agentsOf_2 rfl ?_
  refine z_istore (pc := 3) (ls' := [(4, _), (3, _), (0, _), (1, _), (2, _)]) dX7_agentsOf_3 (by decide) rfl ?_
  exact z_sub (ks := [2, 3, 4, 1, 0]) rfl Q
set_option maxHeartbeats 4000000 in
set_option maxRecDepth 100000 in
theorem k_X7_agentsOf_5 {d : Nat} {Post : Option zA → zH → Prop} {Γ : zCx} {h : zH} {v1 : Int} {v2 : Int} {v3 : Int} {v4 : Int}  (hd : 2 ≤ d) (Q :
 ((6 ≤ v4 →
  Post (some (zI v3)) h) ∧
 (¬ 6 ≤ v4 →
  ((¬ v2 = 8 →
   (0 ≤ v4 ∧ v4 ≤ 5) ∧
   (0 ≤ v1 ∧ v1 ≤ 5) ∧
   0 ≤ (6 * v1 + v4) ∧ (6 * v1 + v4) < 336 ∧
   (((h 129 (6 * v1 + v4).toNat) ≤ 0 →
    ∀ x5 : Int, x5 = (zwr (v3 + 0)) →
    ∀ x6 : Int, x6 = zwr (v4 + 1) →
    zV RX7 cX7_agentsOf 5 (some .int) d Post Γ 5 [(0, zR 128), (1, zI v1), (2, zI v2), (3, zI x5), (4, zI x6)] [] h) ∧
   (¬ (h 129 (6 * v1 + v4).toNat) ≤ 0 →
    ∀ x7 : Int, x7 = (zwr (v3 + 1)) →
    ∀ x8 : Int, x8 = zwr (v4 + 1) →
    zV RX7 cX7_agentsOf 5 (some .int) d Post Γ 5 [(0, zR 128), (1, zI v1), (2, zI v2), (3, zI x7), (4, zI x8)] [] h))) ∧
  (v2 = 8 →
   (0 ≤ v4 ∧ v4 ≤ 5) ∧
   (0 ≤ v1 ∧ v1 ≤ 5) ∧
   0 ≤ (36 + 6 * v1 + v4) ∧ (36 + 6 * v1 + v4) < 336 ∧
   ∀ x13 : Int, x13 = (zwr (v3 + (h 129 (36 + 6 * v1 + v4).toNat))) →
   ∀ x14 : Int, x14 = zwr (v4 + 1) →
   zV RX7 cX7_agentsOf 5 (some .int) d Post Γ 5 [(0, zR 128), (1, zI v1), (2, zI v2), (3, zI x13), (4, zI x14)] [] h))))) :
    zV RX7 cX7_agentsOf 5 (some .int) d Post Γ 5 [(0, zR 128), (1, zI v1), (2, zI v2), (3, zI v3), (4, zI v4)] [] h := by
  refine z_iload (pc := 5) (n := 4) dX7_agentsOf_5 rfl ?_
  refine z_bipush (pc := 7) (a := 6) dX7_agentsOf_7 rfl ?_
  refine z_icmp_ge (pc := 9) (tgt := 60) dX7_agentsOf_9 (by decide) (fun c => ?_) (fun c => ?_)
  · replace Q := Q.1 c
    refine z_iload_n (pc := 60) (n := 3) dX7_agentsOf_60 rfl rfl ?_
    exact z_iret (pc := 61) rfl dX7_agentsOf_61 Q
  · replace Q := Q.2 c
    refine z_iload_n (pc := 12) (n := 3) dX7_agentsOf_12 rfl rfl ?_
    refine z_iload_n (pc := 13) (n := 2) dX7_agentsOf_13 rfl rfl ?_
    refine z_bipush (pc := 14) (a := 8) dX7_agentsOf_14 rfl ?_
    refine z_icmp_ne (pc := 16) (tgt := 33) dX7_agentsOf_16 (by decide) (fun c => ?_) (fun c => ?_)
    · replace Q := Q.1 c
      refine z_aload_n (pc := 33) (n := 0) dX7_agentsOf_33 rfl rfl ?_
      refine z_getR (pc := 34) (q2 := 129) zo_Model rfl inT7 (i := 0) (by decide) wf_X7_7 rfl (fun _ _ => rfl) dX7_agentsOf_34 ?_
      refine z_iload (pc := 37) (n := 4) dX7_agentsOf_37 rfl ?_
      refine z_iload_n (pc := 39) (n := 1) dX7_agentsOf_39 rfl rfl ?_
      obtain ⟨c1, Q⟩ := Q
      obtain ⟨c2, Q⟩ := Q
      refine z_callS (pc := 40) (M := mX7_held) (as := [_, _]) (st := [_, _]) (c_X7_held c1 c2) wt_X7_held wm_X7_held ⟨by omega, by decide⟩ wl_X7_51 dX7_agentsOf_40 rfl (Nat.le_of_ble_eq_true rfl) rfl ?_
      rintro _ _ ⟨rfl, rfl⟩
      obtain ⟨c3, c4, Q⟩ := Q
      refine z_iald (pc := 43) za_ms c3 c4 dX7_agentsOf_43 ?_
      refine z_if_le (pc := 44) (tgt := 51) dX7_agentsOf_44 (by decide) (fun c => ?_) (fun c => ?_)
      · replace Q := Q.1 c
        refine z_iconst (pc := 51) (a := 0) dX7_agentsOf_51 rfl ?_
        refine z_iadd (pc := 52) dX7_agentsOf_52 ?_
        refine z_top (fun x5 ex5 => ?_)
        replace Q := Q x5 ex5
        refine z_istore_n (pc := 53) (ls' := [(3, _), (0, _), (1, _), (2, _), (4, _)]) dX7_agentsOf_53 rfl (by decide) rfl ?_
        refine z_iincg (pc := 54) (n := 4) (lf := fun y => [(4, zI y), (3, _), (0, _), (1, _), (2, _)]) dX7_agentsOf_54 rfl (by decide) (fun _ => rfl) (fun x6 ex6 => ?_)
        replace Q := Q x6 ex6
        refine z_goto (pc := 57) (tgt := 5) dX7_agentsOf_57 (by decide) ?_
        exact z_sub (ks := [2, 3, 4, 1, 0]) rfl Q
      · replace Q := Q.2 c
        refine z_iconst (pc := 47) (a := 1) dX7_agentsOf_47 rfl ?_
        refine z_goto (pc := 48) (tgt := 52) dX7_agentsOf_48 (by decide) ?_
        refine z_iadd (pc := 52) dX7_agentsOf_52 ?_
        refine z_top (fun x7 ex7 => ?_)
        replace Q := Q x7 ex7
        refine z_istore_n (pc := 53) (ls' := [(3, _), (0, _), (1, _), (2, _), (4, _)]) dX7_agentsOf_53 rfl (by decide) rfl ?_
        refine z_iincg (pc := 54) (n := 4) (lf := fun y => [(4, zI y), (3, _), (0, _), (1, _), (2, _)]) dX7_agentsOf_54 rfl (by decide) (fun _ => rfl) (fun x8 ex8 => ?_)
        replace Q := Q x8 ex8
        refine z_goto (pc := 57) (tgt := 5) dX7_agentsOf_57 (by decide) ?_
        exact z_sub (ks := [2, 3, 4, 1, 0]) rfl Q
    · replace Q := Q.2 c
      refine z_aload_n (pc := 19) (n := 0) dX7_agentsOf_19 rfl rfl ?_
      refine z_getR (pc := 20) (q2 := 129) zo_Model rfl inT7 (i := 0) (by decide) wf_X7_7 rfl (fun _ _ => rfl) dX7_agentsOf_20 ?_
      refine z_iload (pc := 23) (n := 4) dX7_agentsOf_23 rfl ?_
      refine z_iload_n (pc := 25) (n := 1) dX7_agentsOf_25 rfl rfl ?_
      obtain ⟨c9, Q⟩ := Q
      obtain ⟨c10, Q⟩ := Q
      refine z_callS (pc := 26) (M := mX7_holds) (as := [_, _]) (st := [_, _]) (c_X7_holds c9 c10) wt_X7_holds wm_X7_holds ⟨by omega, by decide⟩ wl_X7_72 dX7_agentsOf_26 rfl (Nat.le_of_ble_eq_true rfl) rfl ?_
      rintro _ _ ⟨rfl, rfl⟩
      obtain ⟨c11, c12, Q⟩ := Q
      refine z_iald (pc := 29) za_ms c11 c12 dX7_agentsOf_29 ?_
      refine z_goto (pc := 30) (tgt := 52) dX7_agentsOf_30 (by decide) ?_
      refine z_iadd (pc := 52) dX7_agentsOf_52 ?_
      refine z_top (fun x13 ex13 => ?_)
      replace Q := Q x13 ex13
      refine z_istore_n (pc := 53) (ls' := [(3, _), (0, _), (1, _), (2, _), (4, _)]) dX7_agentsOf_53 rfl (by decide) rfl ?_
      refine z_iincg (pc := 54) (n := 4) (lf := fun y => [(4, zI y), (3, _), (0, _), (1, _), (2, _)]) dX7_agentsOf_54 rfl (by decide) (fun _ => rfl) (fun x14 ex14 => ?_)
      replace Q := Q x14 ex14
      refine z_goto (pc := 57) (tgt := 5) dX7_agentsOf_57 (by decide) ?_
      exact z_sub (ks := [2, 3, 4, 1, 0]) rfl Q
set_option maxHeartbeats 4000000 in
set_option maxRecDepth 100000 in
theorem k_X7_backFault_0 {d : Nat} {Post : Option zA → zH → Prop} {Γ : zCx} {h : zH} {a1 : Int}  (hd : 1 ≤ d) (Q :
 ∃ (d1 : Nat) (P2 : Option zA → zH → Prop), d1 + 1 ≤ d ∧ zSp d1 mX7_placeOf [zR 128, zI a1] h P2 ∧ ∀ r3 h4, P2 r3 h4 →
 ∃ x7 : Int, r3 = some (zI x7) ∧
 ((¬ x7 = (-5) →
  ∃ (d8 : Nat) (P9 : Option zA → zH → Prop), d8 + 1 ≤ d ∧ zSp d8 mX7_canGive [zR 128, zI x7] h4 P9 ∧ ∀ r10 h11, P9 r10 h11 →
  ∃ x14 : Int, r10 = some (zI x14) ∧
  ((x14 = 0 →
   Post (some (zI (-4))) h11) ∧
  (¬ x14 = 0 →
   Post (some (zI 0)) h11))) ∧
 (x7 = (-5) →
  Post (some (zI (-1))) h4))) :
    zV RX7 cX7_backFault 3 (some .int) d Post Γ 0 [(0, zR 128), (1, zI a1)] [] h := by
  refine z_aload_n (pc := 0) (n := 0) dX7_backFault_0 rfl rfl ?_
  refine z_iload_n (pc := 1) (n := 1) dX7_backFault_1 rfl rfl ?_
  obtain ⟨d1, P2, e5, s6, Q⟩ := Q
  refine z_callV (pc := 2) (M := mX7_placeOf) (as := [_]) (st := []) s6 zo_Model rfl wi_X7_placeOf wm_X7_placeOf ⟨by omega, by decide⟩ wl_X7_82 dX7_backFault_2 rfl (Nat.le_of_ble_eq_true rfl) rfl ?_
  intro r3 h4 s6
  obtain ⟨x7, rfl, Q⟩ := Q _ _ s6
  refine z_istore_n (pc := 5) (ls' := [(2, _), (0, _), (1, _)]) dX7_backFault_5 rfl (by decide) rfl ?_
  refine z_iload_n (pc := 6) (n := 0) dX7_backFault_6 rfl rfl ?_
  refine z_bipush (pc := 7) (a := -5) dX7_backFault_7 rfl ?_
  refine z_icmp_ne (pc := 9) (tgt := 16) dX7_backFault_9 (by decide) (fun c => ?_) (fun c => ?_)
  · replace Q := Q.1 c
    refine z_aload_n (pc := 16) (n := 1) dX7_backFault_16 rfl rfl ?_
    refine z_iload_n (pc := 17) (n := 0) dX7_backFault_17 rfl rfl ?_
    obtain ⟨d8, P9, e12, s13, Q⟩ := Q
    refine z_callV (pc := 18) (M := mX7_canGive) (as := [_]) (st := []) s13 zo_Model rfl wi_X7_canGive wm_X7_canGive ⟨by omega, by decide⟩ wl_X7_93 dX7_backFault_18 rfl (Nat.le_of_ble_eq_true rfl) rfl ?_
    intro r10 h11 s13
    obtain ⟨x14, rfl, Q⟩ := Q _ _ s13
    refine z_if_eq (pc := 21) (tgt := 28) dX7_backFault_21 (by decide) (fun c => ?_) (fun c => ?_)
    · replace Q := Q.1 c
      refine z_bipush (pc := 28) (a := -4) dX7_backFault_28 rfl ?_
      exact z_iret (pc := 30) rfl dX7_backFault_30 Q
    · replace Q := Q.2 c
      refine z_iconst (pc := 24) (a := 0) dX7_backFault_24 rfl ?_
      refine z_goto (pc := 25) (tgt := 30) dX7_backFault_25 (by decide) ?_
      exact z_iret (pc := 30) rfl dX7_backFault_30 Q
  · replace Q := Q.2 c
    refine z_iconst (pc := 12) (a := -1) dX7_backFault_12 rfl ?_
    refine z_goto (pc := 13) (tgt := 30) dX7_backFault_13 (by decide) ?_
    exact z_iret (pc := 30) rfl dX7_backFault_30 Q
set_option maxHeartbeats 4000000 in
set_option maxRecDepth 100000 in
theorem k_X7_canGive_0 {d : Nat} {Post : Option zA → zH → Prop} {Γ : zCx} {h : zH} {a1 : Int}  (hd : 2 ≤ d) (Q :
 (-1 ≤ a1 ∧ a1 ≤ 40) ∧
 0 ≤ (136 + 5 * a1 + 2) ∧ (136 + 5 * a1 + 2) < 336 ∧
 ∀ x4 : Int, x4 = (h 129 (136 + 5 * a1 + 2).toNat) →
 (-1 ≤ a1 ∧ a1 ≤ 40) ∧
 0 ≤ (136 + 5 * a1 + 3) ∧ (136 + 5 * a1 + 3) < 336 ∧
 ∀ x8 : Int, x8 = (h 129 (136 + 5 * a1 + 3).toNat) →
 (0 ≤ x4 ∧ x4 ≤ 5) ∧
 (0 ≤ x8 ∧ x8 ≤ 5) ∧
 0 ≤ (6 * x8 + x4) ∧ (6 * x8 + x4) < 336 ∧
 (-1 ≤ a1 ∧ a1 ≤ 40) ∧
 0 ≤ (136 + 5 * a1 + 4) ∧ (136 + 5 * a1 + 4) < 336 ∧
 (((h 129 (6 * x8 + x4).toNat) < (h 129 (136 + 5 * a1 + 4).toNat) →
  Post (some (zI 0)) h) ∧
 (¬ (h 129 (6 * x8 + x4).toNat) < (h 129 (136 + 5 * a1 + 4).toNat) →
  (0 ≤ x4 ∧ x4 ≤ 5) ∧
  (0 ≤ x8 ∧ x8 ≤ 5) ∧
  0 ≤ (36 + 6 * x8 + x4) ∧ (36 + 6 * x8 + x4) < 336 ∧
  ((¬ (h 129 (36 + 6 * x8 + x4).toNat) = 0 →
   Post (some (zI 0)) h) ∧
  ((h 129 (36 + 6 * x8 + x4).toNat) = 0 →
   Post (some (zI 1)) h))))) :
    zV RX7 cX7_canGive 4 (some .boolean) d Post Γ 0 [(0, zR 128), (1, zI a1)] [] h := by
  refine z_aload_n (pc := 0) (n := 0) dX7_canGive_0 rfl rfl ?_
  refine z_getR (pc := 1) (q2 := 129) zo_Model rfl inT7 (i := 0) (by decide) wf_X7_7 rfl (fun _ _ => rfl) dX7_canGive_1 ?_
  refine z_iload_n (pc := 4) (n := 1) dX7_canGive_4 rfl rfl ?_
  refine z_iconst (pc := 5) (a := 2) dX7_canGive_5 rfl ?_
  obtain ⟨c1, Q⟩ := Q
  refine z_callS (pc := 6) (M := mX7_of) (as := [_, _]) (st := [_]) (c_X7_of c1 (by decide)) wt_X7_of wm_X7_of ⟨by omega, by decide⟩ wl_X7_69 dX7_canGive_6 rfl (Nat.le_of_ble_eq_true rfl) rfl ?_
  rintro _ _ ⟨rfl, rfl⟩
  obtain ⟨c2, c3, Q⟩ := Q
  refine z_iald (pc := 9) za_ms c2 c3 dX7_canGive_9 ?_
  refine z_top (fun x4 ex4 => ?_)
  replace Q := Q x4 ex4
  refine z_istore_n (pc := 10) (ls' := [(2, _), (0, _), (1, _)]) dX7_canGive_10 rfl (by decide) rfl ?_
  refine z_aload_n (pc := 11) (n := 1) dX7_canGive_11 rfl rfl ?_
  refine z_getR (pc := 12) (q2 := 129) zo_Model rfl inT7 (i := 0) (by decide) wf_X7_7 rfl (fun _ _ => rfl) dX7_canGive_12 ?_
  refine z_iload_n (pc := 15) (n := 2) dX7_canGive_15 rfl rfl ?_
  refine z_iconst (pc := 16) (a := 3) dX7_canGive_16 rfl ?_
  obtain ⟨c5, Q⟩ := Q
  refine z_callS (pc := 17) (M := mX7_of) (as := [_, _]) (st := [_]) (c_X7_of c5 (by decide)) wt_X7_of wm_X7_of ⟨by omega, by decide⟩ wl_X7_69 dX7_canGive_17 rfl (Nat.le_of_ble_eq_true rfl) rfl ?_
  rintro _ _ ⟨rfl, rfl⟩
  obtain ⟨c6, c7, Q⟩ := Q
  refine z_iald (pc := 20) za_ms c6 c7 dX7_canGive_20 ?_
  refine z_top (fun x8 ex8 => ?_)
  replace Q := Q x8 ex8
  refine z_istore_n (pc := 21) (ls' := [(3, _), (2, _), (0, _), (1, _)]) dX7_canGive_21 rfl (by decide) rfl ?_
  refine z_aload_n (pc := 22) (n := 2) dX7_canGive_22 rfl rfl ?_
  refine z_getR (pc := 23) (q2 := 129) zo_Model rfl inT7 (i := 0) (by decide) wf_X7_7 rfl (fun _ _ => rfl) dX7_canGive_23 ?_
  refine z_iload_n (pc := 26) (n := 1) dX7_canGive_26 rfl rfl ?_
  refine z_iload_n (pc := 27) (n := 0) dX7_canGive_27 rfl rfl ?_
  obtain ⟨c9, Q⟩ := Q
  obtain ⟨c10, Q⟩ := Q
  refine z_callS (pc := 28) (M := mX7_held) (as := [_, _]) (st := [_]) (c_X7_held c9 c10) wt_X7_held wm_X7_held ⟨by omega, by decide⟩ wl_X7_51 dX7_canGive_28 rfl (Nat.le_of_ble_eq_true rfl) rfl ?_
  rintro _ _ ⟨rfl, rfl⟩
  obtain ⟨c11, c12, Q⟩ := Q
  refine z_iald (pc := 31) za_ms c11 c12 dX7_canGive_31 ?_
  refine z_aload_n (pc := 32) (n := 2) dX7_canGive_32 rfl rfl ?_
  refine z_getR (pc := 33) (q2 := 129) zo_Model rfl inT7 (i := 0) (by decide) wf_X7_7 rfl (fun _ _ => rfl) dX7_canGive_33 ?_
  refine z_iload_n (pc := 36) (n := 3) dX7_canGive_36 rfl rfl ?_
  refine z_iconst (pc := 37) (a := 4) dX7_canGive_37 rfl ?_
  obtain ⟨c13, Q⟩ := Q
  refine z_callS (pc := 38) (M := mX7_of) (as := [_, _]) (st := [_, _]) (c_X7_of c13 (by decide)) wt_X7_of wm_X7_of ⟨by omega, by decide⟩ wl_X7_69 dX7_canGive_38 rfl (Nat.le_of_ble_eq_true rfl) rfl ?_
  rintro _ _ ⟨rfl, rfl⟩
  obtain ⟨c14, c15, Q⟩ := Q
  refine z_iald (pc := 41) za_ms c14 c15 dX7_canGive_41 ?_
  refine z_icmp_lt (pc := 42) (tgt := 62) dX7_canGive_42 (by decide) (fun c => ?_) (fun c => ?_)
  · replace Q := Q.1 c
    refine z_iconst (pc := 62) (a := 0) dX7_canGive_62 rfl ?_
    exact z_zret (pc := 63) rfl (by decide) dX7_canGive_63 Q
  · replace Q := Q.2 c
    refine z_aload_n (pc := 45) (n := 2) dX7_canGive_45 rfl rfl ?_
    refine z_getR (pc := 46) (q2 := 129) zo_Model rfl inT7 (i := 0) (by decide) wf_X7_7 rfl (fun _ _ => rfl) dX7_canGive_46 ?_
    refine z_iload_n (pc := 49) (n := 1) dX7_canGive_49 rfl rfl ?_
    refine z_iload_n (pc := 50) (n := 0) dX7_canGive_50 rfl rfl ?_
    obtain ⟨c16, Q⟩ := Q
    obtain ⟨c17, Q⟩ := Q
    refine z_callS (pc := 51) (M := mX7_holds) (as := [_, _]) (st := [_]) (c_X7_holds c16 c17) wt_X7_holds wm_X7_holds ⟨by omega, by decide⟩ wl_X7_72 dX7_canGive_51 rfl (Nat.le_of_ble_eq_true rfl) rfl ?_
    rintro _ _ ⟨rfl, rfl⟩
    obtain ⟨c18, c19, Q⟩ := Q
    refine z_iald (pc := 54) za_ms c18 c19 dX7_canGive_54 ?_
    refine z_if_ne (pc := 55) (tgt := 62) dX7_canGive_55 (by decide) (fun c => ?_) (fun c => ?_)
    · replace Q := Q.1 c
      refine z_iconst (pc := 62) (a := 0) dX7_canGive_62 rfl ?_
      exact z_zret (pc := 63) rfl (by decide) dX7_canGive_63 Q
    · replace Q := Q.2 c
      refine z_iconst (pc := 58) (a := 1) dX7_canGive_58 rfl ?_
      refine z_goto (pc := 59) (tgt := 63) dX7_canGive_59 (by decide) ?_
      exact z_zret (pc := 63) rfl (by decide) dX7_canGive_63 Q
set_option maxHeartbeats 4000000 in
set_option maxRecDepth 100000 in
theorem k_X7_cell_0 {d : Nat} {Post : Option zA → zH → Prop} {Γ : zCx} {h : zH} {a1 : Int} {a2 : Int}  (hd : 3 ≤ d) (Q :
 ((0 ≤ a1 ∧ a1 ≤ 5 →
  ((a2 = 0 →
   0 ≤ (zwr (114 + a1)) ∧ (zwr (114 + a1)) < 336 ∧
   Post (some (zI (h 129 (zwr (114 + a1)).toNat))) h) ∧
  (a2 = 1 →
   0 ≤ (zwr (120 + a1)) ∧ (zwr (120 + a1)) < 336 ∧
   Post (some (zI (h 129 (zwr (120 + a1)).toNat))) h) ∧
  (a2 = 2 →
   0 ≤ (zwr (126 + a1)) ∧ (zwr (126 + a1)) < 336 ∧
   Post (some (zI (h 129 (zwr (126 + a1)).toNat))) h) ∧
  (a2 = 3 →
   ∃ (d7 : Nat) (P8 : Option zA → zH → Prop), d7 + 1 ≤ d ∧ zSp d7 mX7_agentsOf [zR 128, zI a1, zI a2] h P8 ∧ ∀ r9 h10, P8 r9 h10 →
   ∃ x13 : Int, r9 = some (zI x13) ∧
   Post (some (zI x13)) h10) ∧
  (a2 = 4 →
   0 ≤ (zwr (108 + a1)) ∧ (zwr (108 + a1)) < 336 ∧
   Post (some (zI (h 129 (zwr (108 + a1)).toNat))) h) ∧
  (a2 = 5 →
   0 ≤ (zwr (108 + a1)) ∧ (zwr (108 + a1)) < 336 ∧
   ((¬ (h 129 (zwr (108 + a1)).toNat) = 0 →
    0 ≤ (zwr (72 + (zwr (6 * a1)))) ∧ (zwr (72 + (zwr (6 * a1)))) < 336 ∧
    Post (some (zI (h 129 (zwr (72 + (zwr (6 * a1)))).toNat))) h) ∧
   ((h 129 (zwr (108 + a1)).toNat) = 0 →
    Post (some (zI (-5))) h))) ∧
  (a2 = 6 →
   ∃ (d20 : Nat) (P21 : Option zA → zH → Prop), d20 + 1 ≤ d ∧ zSp d20 mX7_loansOf [zR 128, zI a1] h P21 ∧ ∀ r22 h23, P21 r22 h23 →
   ∃ x26 : Int, r22 = some (zI x26) ∧
   Post (some (zI x26)) h23) ∧
  (a2 = 7 →
   ∃ (d27 : Nat) (P28 : Option zA → zH → Prop), d27 + 1 ≤ d ∧ zSp d27 mX7_wholeOf [zR 128, zI a1] h P28 ∧ ∀ r29 h30, P28 r29 h30 →
   ∃ x33 : Int, r29 = some (zI x33) ∧
   Post (some (zI x33)) h30) ∧
  (a2 = 8 →
   ∃ (d34 : Nat) (P35 : Option zA → zH → Prop), d34 + 1 ≤ d ∧ zSp d34 mX7_agentsOf [zR 128, zI a1, zI a2] h P35 ∧ ∀ r36 h37, P35 r36 h37 →
   ∃ x40 : Int, r36 = some (zI x40) ∧
   Post (some (zI x40)) h37) ∧
  ((a2 < 0 ∨ 8 < a2) →
   Post (some (zI (-2))) h))) ∧
 (¬ (0 ≤ a1 ∧ a1 ≤ 5) →
  Post (some (zI (-1))) h))) :
    zV RX7 cX7_cell 3 (some .int) d Post Γ 0 [(0, zR 128), (1, zI a1), (2, zI a2)] [] h := by
  refine z_iload_n (pc := 0) (n := 1) dX7_cell_0 rfl rfl ?_
  refine z_callS (pc := 1) (M := mX7_isCell) (as := [_]) (st := []) c_X7_isCell wt_X7_isCell wm_X7_isCell ⟨by omega, by decide⟩ wl_X7_63 dX7_cell_1 rfl (Nat.le_of_ble_eq_true rfl) rfl ?_
  rintro _ _ ⟨rfl, rfl⟩
  refine z_ifb_ne (pc := 4) (tgt := 9) dX7_cell_4 (by decide) (fun c => ?_) (fun c => ?_)
  · replace Q := Q.1 c
    refine z_iload_n (pc := 9) (n := 2) dX7_cell_9 rfl rfl ?_
    rcases (show a2 = 0 ∨ a2 = 1 ∨ a2 = 2 ∨ a2 = 3 ∨ a2 = 4 ∨ a2 = 5 ∨ a2 = 6 ∨ a2 = 7 ∨ a2 = 8 ∨ (a2 < 0 ∨ 8 < a2) by omega) with c | c | c | c | c | c | c | c | c | c
    · replace Q := Q.1 c
      refine z_tableIn (pc := 10) (n := 0) (tgt := 60) dX7_cell_10 (by omega) (by decide) rfl (by decide) ?_
      refine z_aload_n (pc := 60) (n := 0) dX7_cell_60 rfl rfl ?_
      refine z_getR (pc := 61) (q2 := 129) zo_Model rfl inT7 (i := 0) (by decide) wf_X7_7 rfl (fun _ _ => rfl) dX7_cell_61 ?_
      refine z_bipush (pc := 64) (a := 114) dX7_cell_64 rfl ?_
      refine z_iload_n (pc := 66) (n := 1) dX7_cell_66 rfl rfl ?_
      refine z_iadd (pc := 67) dX7_cell_67 ?_
      obtain ⟨c1, c2, Q⟩ := Q
      refine z_iald (pc := 68) za_ms c1 c2 dX7_cell_68 ?_
      exact z_iret (pc := 69) rfl dX7_cell_69 Q
    · replace Q := Q.2.1 c
      refine z_tableIn (pc := 10) (n := 1) (tgt := 70) dX7_cell_10 (by omega) (by decide) rfl (by decide) ?_
      refine z_aload_n (pc := 70) (n := 0) dX7_cell_70 rfl rfl ?_
      refine z_getR (pc := 71) (q2 := 129) zo_Model rfl inT7 (i := 0) (by decide) wf_X7_7 rfl (fun _ _ => rfl) dX7_cell_71 ?_
      refine z_bipush (pc := 74) (a := 120) dX7_cell_74 rfl ?_
      refine z_iload_n (pc := 76) (n := 1) dX7_cell_76 rfl rfl ?_
      refine z_iadd (pc := 77) dX7_cell_77 ?_
      obtain ⟨c3, c4, Q⟩ := Q
      refine z_iald (pc := 78) za_ms c3 c4 dX7_cell_78 ?_
      exact z_iret (pc := 79) rfl dX7_cell_79 Q
    · replace Q := Q.2.2.1 c
      refine z_tableIn (pc := 10) (n := 2) (tgt := 80) dX7_cell_10 (by omega) (by decide) rfl (by decide) ?_
      refine z_aload_n (pc := 80) (n := 0) dX7_cell_80 rfl rfl ?_
      refine z_getR (pc := 81) (q2 := 129) zo_Model rfl inT7 (i := 0) (by decide) wf_X7_7 rfl (fun _ _ => rfl) dX7_cell_81 ?_
      refine z_bipush (pc := 84) (a := 126) dX7_cell_84 rfl ?_
      refine z_iload_n (pc := 86) (n := 1) dX7_cell_86 rfl rfl ?_
      refine z_iadd (pc := 87) dX7_cell_87 ?_
      obtain ⟨c5, c6, Q⟩ := Q
      refine z_iald (pc := 88) za_ms c5 c6 dX7_cell_88 ?_
      exact z_iret (pc := 89) rfl dX7_cell_89 Q
    · replace Q := Q.2.2.2.1 c
      refine z_tableIn (pc := 10) (n := 3) (tgt := 90) dX7_cell_10 (by omega) (by decide) rfl (by decide) ?_
      refine z_aload_n (pc := 90) (n := 0) dX7_cell_90 rfl rfl ?_
      refine z_iload_n (pc := 91) (n := 1) dX7_cell_91 rfl rfl ?_
      refine z_iload_n (pc := 92) (n := 2) dX7_cell_92 rfl rfl ?_
      obtain ⟨d7, P8, e11, s12, Q⟩ := Q
      refine z_callV (pc := 93) (M := mX7_agentsOf) (as := [_, _]) (st := []) s12 zo_Model rfl wi_X7_agentsOf wm_X7_agentsOf ⟨by omega, by decide⟩ wl_X7_184 dX7_cell_93 rfl (Nat.le_of_ble_eq_true rfl) rfl ?_
      intro r9 h10 s12
      obtain ⟨x13, rfl, Q⟩ := Q _ _ s12
      exact z_iret (pc := 96) rfl dX7_cell_96 Q
    · replace Q := Q.2.2.2.2.1 c
      refine z_tableIn (pc := 10) (n := 4) (tgt := 97) dX7_cell_10 (by omega) (by decide) rfl (by decide) ?_
      refine z_aload_n (pc := 97) (n := 0) dX7_cell_97 rfl rfl ?_
      refine z_getR (pc := 98) (q2 := 129) zo_Model rfl inT7 (i := 0) (by decide) wf_X7_7 rfl (fun _ _ => rfl) dX7_cell_98 ?_
      refine z_bipush (pc := 101) (a := 108) dX7_cell_101 rfl ?_
      refine z_iload_n (pc := 103) (n := 1) dX7_cell_103 rfl rfl ?_
      refine z_iadd (pc := 104) dX7_cell_104 ?_
      obtain ⟨c14, c15, Q⟩ := Q
      refine z_iald (pc := 105) za_ms c14 c15 dX7_cell_105 ?_
      exact z_iret (pc := 106) rfl dX7_cell_106 Q
    · replace Q := Q.2.2.2.2.2.1 c
      refine z_tableIn (pc := 10) (n := 5) (tgt := 107) dX7_cell_10 (by omega) (by decide) rfl (by decide) ?_
      refine z_aload_n (pc := 107) (n := 0) dX7_cell_107 rfl rfl ?_
      refine z_getR (pc := 108) (q2 := 129) zo_Model rfl inT7 (i := 0) (by decide) wf_X7_7 rfl (fun _ _ => rfl) dX7_cell_108 ?_
      refine z_bipush (pc := 111) (a := 108) dX7_cell_111 rfl ?_
      refine z_iload_n (pc := 113) (n := 1) dX7_cell_113 rfl rfl ?_
      refine z_iadd (pc := 114) dX7_cell_114 ?_
      obtain ⟨c16, c17, Q⟩ := Q
      refine z_iald (pc := 115) za_ms c16 c17 dX7_cell_115 ?_
      refine z_if_ne (pc := 116) (tgt := 124) dX7_cell_116 (by decide) (fun c => ?_) (fun c => ?_)
      · replace Q := Q.1 c
        refine z_aload_n (pc := 124) (n := 0) dX7_cell_124 rfl rfl ?_
        refine z_getR (pc := 125) (q2 := 129) zo_Model rfl inT7 (i := 0) (by decide) wf_X7_7 rfl (fun _ _ => rfl) dX7_cell_125 ?_
        refine z_bipush (pc := 128) (a := 72) dX7_cell_128 rfl ?_
        refine z_bipush (pc := 130) (a := 6) dX7_cell_130 rfl ?_
        refine z_iload_n (pc := 132) (n := 1) dX7_cell_132 rfl rfl ?_
        refine z_imul (pc := 133) dX7_cell_133 ?_
        refine z_iadd (pc := 134) dX7_cell_134 ?_
        obtain ⟨c18, c19, Q⟩ := Q
        refine z_iald (pc := 135) za_ms c18 c19 dX7_cell_135 ?_
        exact z_iret (pc := 136) rfl dX7_cell_136 Q
      · replace Q := Q.2 c
        refine z_bipush (pc := 119) (a := -5) dX7_cell_119 rfl ?_
        refine z_goto (pc := 121) (tgt := 136) dX7_cell_121 (by decide) ?_
        exact z_iret (pc := 136) rfl dX7_cell_136 Q
    · replace Q := Q.2.2.2.2.2.2.1 c
      refine z_tableIn (pc := 10) (n := 6) (tgt := 137) dX7_cell_10 (by omega) (by decide) rfl (by decide) ?_
      refine z_aload_n (pc := 137) (n := 0) dX7_cell_137 rfl rfl ?_
      refine z_iload_n (pc := 138) (n := 1) dX7_cell_138 rfl rfl ?_
      obtain ⟨d20, P21, e24, s25, Q⟩ := Q
      refine z_callV (pc := 139) (M := mX7_loansOf) (as := [_]) (st := []) s25 zo_Model rfl wi_X7_loansOf wm_X7_loansOf ⟨by omega, by decide⟩ wl_X7_145 dX7_cell_139 rfl (Nat.le_of_ble_eq_true rfl) rfl ?_
      intro r22 h23 s25
      obtain ⟨x26, rfl, Q⟩ := Q _ _ s25
      exact z_iret (pc := 142) rfl dX7_cell_142 Q
    · replace Q := Q.2.2.2.2.2.2.2.1 c
      refine z_tableIn (pc := 10) (n := 7) (tgt := 143) dX7_cell_10 (by omega) (by decide) rfl (by decide) ?_
      refine z_aload_n (pc := 143) (n := 0) dX7_cell_143 rfl rfl ?_
      refine z_iload_n (pc := 144) (n := 1) dX7_cell_144 rfl rfl ?_
      obtain ⟨d27, P28, e31, s32, Q⟩ := Q
      refine z_callV (pc := 145) (M := mX7_wholeOf) (as := [_]) (st := []) s32 zo_Model rfl wi_X7_wholeOf wm_X7_wholeOf ⟨by omega, by decide⟩ wl_X7_187 dX7_cell_145 rfl (Nat.le_of_ble_eq_true rfl) rfl ?_
      intro r29 h30 s32
      obtain ⟨x33, rfl, Q⟩ := Q _ _ s32
      exact z_iret (pc := 148) rfl dX7_cell_148 Q
    · replace Q := Q.2.2.2.2.2.2.2.2.1 c
      refine z_tableIn (pc := 10) (n := 8) (tgt := 90) dX7_cell_10 (by omega) (by decide) rfl (by decide) ?_
      refine z_aload_n (pc := 90) (n := 0) dX7_cell_90 rfl rfl ?_
      refine z_iload_n (pc := 91) (n := 1) dX7_cell_91 rfl rfl ?_
      refine z_iload_n (pc := 92) (n := 2) dX7_cell_92 rfl rfl ?_
      obtain ⟨d34, P35, e38, s39, Q⟩ := Q
      refine z_callV (pc := 93) (M := mX7_agentsOf) (as := [_, _]) (st := []) s39 zo_Model rfl wi_X7_agentsOf wm_X7_agentsOf ⟨by omega, by decide⟩ wl_X7_184 dX7_cell_93 rfl (Nat.le_of_ble_eq_true rfl) rfl ?_
      intro r36 h37 s39
      obtain ⟨x40, rfl, Q⟩ := Q _ _ s39
      exact z_iret (pc := 96) rfl dX7_cell_96 Q
    · replace Q := Q.2.2.2.2.2.2.2.2.2 c
      refine z_tableOut (pc := 10) (tgt := 149) dX7_cell_10 c (by decide) ?_
      refine z_bipush (pc := 149) (a := -2) dX7_cell_149 rfl ?_
      exact z_iret (pc := 151) rfl dX7_cell_151 Q
  · replace Q := Q.2 c
    refine z_iconst (pc := 7) (a := -1) dX7_cell_7 rfl ?_
    exact z_iret (pc := 8) rfl dX7_cell_8 Q
set_option maxHeartbeats 4000000 in
set_option maxRecDepth 100000 in
theorem k_X7_chain_0 {d : Nat} {Post : Option zA → zH → Prop} {Γ : zCx} {h : zH} {a1 : Int}  (hd : 3 ≤ d) (Q :
 ((0 ≤ a1 ∧ a1 ≤ 5 →
  zV RX7 cX7_chain 9 (some .int) d Post Γ 13 [(0, zR 128), (1, zI a1), (2, zI 0), (3, zI 0)] [] h) ∧
 (¬ (0 ≤ a1 ∧ a1 ≤ 5) →
  Post (some (zI (-1))) h))) :
    zV RX7 cX7_chain 9 (some .int) d Post Γ 0 [(0, zR 128), (1, zI a1)] [] h := by
  refine z_iload_n (pc := 0) (n := 1) dX7_chain_0 rfl rfl ?_
  refine z_callS (pc := 1) (M := mX7_isCell) (as := [_]) (st := []) c_X7_isCell wt_X7_isCell wm_X7_isCell ⟨by omega, by decide⟩ wl_X7_63 dX7_chain_1 rfl (Nat.le_of_ble_eq_true rfl) rfl ?_
  rintro _ _ ⟨rfl, rfl⟩
  refine z_ifb_ne (pc := 4) (tgt := 9) dX7_chain_4 (by decide) (fun c => ?_) (fun c => ?_)
  · replace Q := Q.1 c
    refine z_iconst (pc := 9) (a := 0) dX7_chain_9 rfl ?_
    refine z_istore_n (pc := 10) (ls' := [(2, _), (0, _), (1, _)]) dX7_chain_10 rfl (by decide) rfl ?_
    refine z_iconst (pc := 11) (a := 0) dX7_chain_11 rfl ?_
    refine z_istore_n (pc := 12) (ls' := [(3, _), (2, _), (0, _), (1, _)]) dX7_chain_12 rfl (by decide) rfl ?_
    exact z_sub (ks := [2, 3, 1, 0]) rfl Q
  · replace Q := Q.2 c
    refine z_iconst (pc := 7) (a := -1) dX7_chain_7 rfl ?_
    exact z_iret (pc := 8) rfl dX7_chain_8 Q
set_option maxHeartbeats 4000000 in
set_option maxRecDepth 100000 in
theorem k_X7_chain_13 {d : Nat} {Post : Option zA → zH → Prop} {Γ : zCx} {h : zH} {v1 : Int} {v2 : Int} {v3 : Int}  (hd : 1 ≤ d) (Q :
 ((384 ≤ v3 →
  zV RX7 cX7_chain 9 (some .int) d Post Γ 52 [(0, zR 128), (1, zI v1), (2, zI v2), (3, zI 1)] [] h) ∧
 (¬ 384 ≤ v3 →
  ((¬ (zrem v3 64) = (zshl 1 (zdiv v3 64)) →
   0 ≤ v3 ∧ v3 < 384 ∧
   ∀ h3 : zH, h3 = zu h 139 v3.toNat 0 →
   ∀ x4 : Int, x4 = zwr (v3 + 1) →
   zV RX7 cX7_chain 9 (some .int) d Post Γ 13 [(0, zR 128), (1, zI v1), (2, zI v2), (3, zI x4)] [] h3) ∧
  ((zrem v3 64) = (zshl 1 (zdiv v3 64)) →
   0 ≤ v3 ∧ v3 < 384 ∧
   ∀ h7 : zH, h7 = zu h 139 v3.toNat 1 →
   ∀ x8 : Int, x8 = zwr (v3 + 1) →
   zV RX7 cX7_chain 9 (some .int) d Post Γ 13 [(0, zR 128), (1, zI v1), (2, zI v2), (3, zI x8)] [] h7))))) :
    zV RX7 cX7_chain 9 (some .int) d Post Γ 13 [(0, zR 128), (1, zI v1), (2, zI v2), (3, zI v3)] [] h := by
  refine z_iload_n (pc := 13) (n := 3) dX7_chain_13 rfl rfl ?_
  refine z_sipush (pc := 14) (a := 384) dX7_chain_14 rfl ?_
  refine z_icmp_ge (pc := 17) (tgt := 50) dX7_chain_17 (by decide) (fun c => ?_) (fun c => ?_)
  · replace Q := Q.1 c
    refine z_iconst (pc := 50) (a := 1) dX7_chain_50 rfl ?_
    refine z_istore_n (pc := 51) (ls' := [(3, _), (0, _), (1, _), (2, _)]) dX7_chain_51 rfl (by decide) rfl ?_
    exact z_sub (ks := [1, 2, 3, 0]) rfl Q
  · replace Q := Q.2 c
    refine z_aload_n (pc := 20) (n := 0) dX7_chain_20 rfl rfl ?_
    refine z_getR (pc := 21) (q2 := 139) zo_Model rfl inT7 (i := 19) (by decide) wf_X7_48 rfl (fun _ _ => rfl) dX7_chain_21 ?_
    refine z_iload_n (pc := 24) (n := 3) dX7_chain_24 rfl rfl ?_
    refine z_iload_n (pc := 25) (n := 3) dX7_chain_25 rfl rfl ?_
    refine z_bipush (pc := 26) (a := 64) dX7_chain_26 rfl ?_
    refine z_irem (pc := 28) dX7_chain_28 (by decide) ?_
    refine z_iconst (pc := 29) (a := 1) dX7_chain_29 rfl ?_
    refine z_iload_n (pc := 30) (n := 3) dX7_chain_30 rfl rfl ?_
    refine z_bipush (pc := 31) (a := 64) dX7_chain_31 rfl ?_
    refine z_idiv (pc := 33) dX7_chain_33 (by decide) ?_
    refine z_ishl (pc := 34) dX7_chain_34 ?_
    refine z_icmp_ne (pc := 35) (tgt := 42) dX7_chain_35 (by decide) (fun c => ?_) (fun c => ?_)
    · replace Q := Q.1 c
      refine z_iconst (pc := 42) (a := 0) dX7_chain_42 rfl ?_
      obtain ⟨c1, c2, Q⟩ := Q
      refine z_zast (pc := 43) za_mends c1 c2 (by decide) dX7_chain_43 ?_
      refine z_heap (fun h3 eh3 => ?_)
      replace Q := Q h3 eh3
      refine z_iincg (pc := 44) (n := 3) (lf := fun y => [(3, zI y), (0, _), (1, _), (2, _)]) dX7_chain_44 rfl (by decide) (fun _ => rfl) (fun x4 ex4 => ?_)
      replace Q := Q x4 ex4
      refine z_goto (pc := 47) (tgt := 13) dX7_chain_47 (by decide) ?_
      exact z_sub (ks := [1, 2, 3, 0]) rfl Q
    · replace Q := Q.2 c
      refine z_iconst (pc := 38) (a := 1) dX7_chain_38 rfl ?_
      refine z_goto (pc := 39) (tgt := 43) dX7_chain_39 (by decide) ?_
      obtain ⟨c5, c6, Q⟩ := Q
      refine z_zast (pc := 43) za_mends c5 c6 (by decide) dX7_chain_43 ?_
      refine z_heap (fun h7 eh7 => ?_)
      replace Q := Q h7 eh7
      refine z_iincg (pc := 44) (n := 3) (lf := fun y => [(3, zI y), (0, _), (1, _), (2, _)]) dX7_chain_44 rfl (by decide) (fun _ => rfl) (fun x8 ex8 => ?_)
      replace Q := Q x8 ex8
      refine z_goto (pc := 47) (tgt := 13) dX7_chain_47 (by decide) ?_
      exact z_sub (ks := [1, 2, 3, 0]) rfl Q
set_option maxHeartbeats 4000000 in
set_option maxRecDepth 100000 in
theorem k_X7_chain_52 {d : Nat} {Post : Option zA → zH → Prop} {Γ : zCx} {h : zH} {v1 : Int} {v2 : Int} {v3 : Int}  (hd : 1 ≤ d) (Q :
 ((64 ≤ v3 →
  Post (some (zI v2)) h) ∧
 (¬ 64 ≤ v3 →
  zV RX7 cX7_chain 9 (some .int) d Post Γ 64 [(0, zR 128), (1, zI v1), (2, zI v2), (3, zI v3), (4, zI (-1)), (5, zI 0)] [] h))) :
    zV RX7 cX7_chain 9 (some .int) d Post Γ 52 [(0, zR 128), (1, zI v1), (2, zI v2), (3, zI v3)] [] h := by
  refine z_iload_n (pc := 52) (n := 3) dX7_chain_52 rfl rfl ?_
  refine z_bipush (pc := 53) (a := 64) dX7_chain_53 rfl ?_
  refine z_icmp_ge (pc := 55) (tgt := 233) dX7_chain_55 (by decide) (fun c => ?_) (fun c => ?_)
  · replace Q := Q.1 c
    refine z_iload_n (pc := 233) (n := 2) dX7_chain_233 rfl rfl ?_
    exact z_iret (pc := 234) rfl dX7_chain_234 Q
  · replace Q := Q.2 c
    refine z_iconst (pc := 58) (a := -1) dX7_chain_58 rfl ?_
    refine z_istore (pc := 59) (ls' := [(4, _), (0, _), (1, _), (2, _), (3, _)]) dX7_chain_59 (by decide) rfl ?_
    refine z_iconst (pc := 61) (a := 0) dX7_chain_61 rfl ?_
    refine z_istore (pc := 62) (ls' := [(5, _), (4, _), (0, _), (1, _), (2, _), (3, _)]) dX7_chain_62 (by decide) rfl ?_
    exact z_sub (ks := [2, 3, 4, 5, 1, 0]) rfl Q
set_option maxHeartbeats 4000000 in
set_option maxRecDepth 100000 in
theorem k_X7_chain_64 {d : Nat} {Post : Option zA → zH → Prop} {Γ : zCx} {h : zH} {v1 : Int} {v2 : Int} {v3 : Int} {v4 : Int} {v5 : Int}  (hd : 1 ≤ d) (Q :
 ((6 ≤ v5 →
  zV RX7 cX7_chain 9 (some .int) d Post Γ 91 [(0, zR 128), (1, zI v1), (2, zI v2), (3, zI v3), (4, zI v4), (5, zI 0)] [] h) ∧
 (¬ 6 ≤ v5 →
  ∀ x1 : Int, x1 = (zwr (v4 + (zand (zshr v3 v5) 1))) →
  ∀ x2 : Int, x2 = zwr (v5 + 1) →
  zV RX7 cX7_chain 9 (some .int) d Post Γ 64 [(0, zR 128), (1, zI v1), (2, zI v2), (3, zI v3), (4, zI x1), (5, zI x2)] [] h))) :
    zV RX7 cX7_chain 9 (some .int) d Post Γ 64 [(0, zR 128), (1, zI v1), (2, zI v2), (3, zI v3), (4, zI v4), (5, zI v5)] [] h := by
  refine z_iload (pc := 64) (n := 5) dX7_chain_64 rfl ?_
  refine z_bipush (pc := 66) (a := 6) dX7_chain_66 rfl ?_
  refine z_icmp_ge (pc := 68) (tgt := 88) dX7_chain_68 (by decide) (fun c => ?_) (fun c => ?_)
  · replace Q := Q.1 c
    refine z_iconst (pc := 88) (a := 0) dX7_chain_88 rfl ?_
    refine z_istore (pc := 89) (ls' := [(5, _), (0, _), (1, _), (2, _), (3, _), (4, _)]) dX7_chain_89 (by decide) rfl ?_
    exact z_sub (ks := [1, 2, 3, 4, 5, 0]) rfl Q
  · replace Q := Q.2 c
    refine z_iload (pc := 71) (n := 4) dX7_chain_71 rfl ?_
    refine z_iload_n (pc := 73) (n := 3) dX7_chain_73 rfl rfl ?_
    refine z_iload (pc := 74) (n := 5) dX7_chain_74 rfl ?_
    refine z_ishr (pc := 76) dX7_chain_76 ?_
    refine z_iconst (pc := 77) (a := 1) dX7_chain_77 rfl ?_
    refine z_iand (pc := 78) dX7_chain_78 ?_
    refine z_iadd (pc := 79) dX7_chain_79 ?_
    refine z_top (fun x1 ex1 => ?_)
    replace Q := Q x1 ex1
    refine z_istore (pc := 80) (ls' := [(4, _), (0, _), (1, _), (2, _), (3, _), (5, _)]) dX7_chain_80 (by decide) rfl ?_
    refine z_iincg (pc := 82) (n := 5) (lf := fun y => [(5, zI y), (4, _), (0, _), (1, _), (2, _), (3, _)]) dX7_chain_82 rfl (by decide) (fun _ => rfl) (fun x2 ex2 => ?_)
    replace Q := Q x2 ex2
    refine z_goto (pc := 85) (tgt := 64) dX7_chain_85 (by decide) ?_
    exact z_sub (ks := [2, 3, 4, 5, 1, 0]) rfl Q
set_option maxHeartbeats 4000000 in
set_option maxRecDepth 100000 in
theorem k_X7_chain_91 {d : Nat} {Post : Option zA → zH → Prop} {Γ : zCx} {h : zH} {v1 : Int} {v2 : Int} {v3 : Int} {v4 : Int} {v5 : Int}  (hd : 2 ≤ d) (Q :
 (((h 129 132) ≤ v5 →
  ∀ x1 : Int, x1 = zwr (v3 + 1) →
  zV RX7 cX7_chain 9 (some .int) d Post Γ 52 [(0, zR 128), (1, zI v1), (2, zI v2), (3, zI x1)] [] h) ∧
 (¬ (h 129 132) ≤ v5 →
  (-1 ≤ v5 ∧ v5 ≤ 40) ∧
  0 ≤ (136 + 5 * v5 + 1) ∧ (136 + 5 * v5 + 1) < 336 ∧
  ∀ x5 : Int, x5 = (h 129 (136 + 5 * v5 + 1).toNat) →
  (-1 ≤ v5 ∧ v5 ≤ 40) ∧
  0 ≤ (136 + 5 * v5 + 2) ∧ (136 + 5 * v5 + 2) < 336 ∧
  ∀ x9 : Int, x9 = (h 129 (136 + 5 * v5 + 2).toNat) →
  (-1 ≤ v5 ∧ v5 ≤ 40) ∧
  0 ≤ (136 + 5 * v5 + 3) ∧ (136 + 5 * v5 + 3) < 336 ∧
  ((¬ (h 129 (136 + 5 * v5 + 3).toNat) = v1 →
   zV RX7 cX7_chain 9 (some .int) d Post Γ 173 [(0, zR 128), (1, zI v1), (2, zI v2), (3, zI v3), (4, zI v4), (5, zI v5), (6, zI x5), (7, zI x9)] [] h) ∧
  ((h 129 (136 + 5 * v5 + 3).toNat) = v1 →
   0 ≤ (zwr ((zwr (64 * x5)) + v3)) ∧ (zwr ((zwr (64 * x5)) + v3)) < 384 ∧
   (((h 139 (zwr ((zwr (64 * x5)) + v3)).toNat) = 0 →
    zV RX7 cX7_chain 9 (some .int) d Post Γ 173 [(0, zR 128), (1, zI v1), (2, zI v2), (3, zI v3), (4, zI v4), (5, zI v5), (6, zI x5), (7, zI x9)] [] h) ∧
   (¬ (h 139 (zwr ((zwr (64 * x5)) + v3)).toNat) = 0 →
    ((¬ (zand (zshr v3 x9) 1) = 0 →
     zV RX7 cX7_chain 9 (some .int) d Post Γ 173 [(0, zR 128), (1, zI v1), (2, zI v2), (3, zI v3), (4, zI v4), (5, zI v5), (6, zI x5), (7, zI x9)] [] h) ∧
    ((zand (zshr v3 x9) 1) = 0 →
     zV RX7 cX7_chain 9 (some .int) d Post Γ 174 [(0, zR 128), (1, zI v1), (2, zI v2), (3, zI v3), (4, zI v4), (5, zI v5), (6, zI x5), (7, zI x9)] [zI 1] h))))))))) :
    zV RX7 cX7_chain 9 (some .int) d Post Γ 91 [(0, zR 128), (1, zI v1), (2, zI v2), (3, zI v3), (4, zI v4), (5, zI v5)] [] h := by
  refine z_iload (pc := 91) (n := 5) dX7_chain_91 rfl ?_
  refine z_aload_n (pc := 93) (n := 0) dX7_chain_93 rfl rfl ?_
  refine z_getR (pc := 94) (q2 := 129) zo_Model rfl inT7 (i := 0) (by decide) wf_X7_7 rfl (fun _ _ => rfl) dX7_chain_94 ?_
  refine z_sipush (pc := 97) (a := 132) dX7_chain_97 rfl ?_
  refine z_iald (pc := 100) za_ms (by decide) (by decide) dX7_chain_100 ?_
  refine z_icmp_ge (pc := 101) (tgt := 227) dX7_chain_101 (by decide) (fun c => ?_) (fun c => ?_)
  · replace Q := Q.1 c
    refine z_iincg (pc := 227) (n := 3) (lf := fun y => [(3, zI y), (0, _), (1, _), (2, _), (4, _), (5, _)]) dX7_chain_227 rfl (by decide) (fun _ => rfl) (fun x1 ex1 => ?_)
    replace Q := Q x1 ex1
    refine z_goto (pc := 230) (tgt := 52) dX7_chain_230 (by decide) ?_
    exact z_sub (ks := [1, 2, 3, 0]) rfl Q
  · replace Q := Q.2 c
    refine z_aload_n (pc := 104) (n := 0) dX7_chain_104 rfl rfl ?_
    refine z_getR (pc := 105) (q2 := 129) zo_Model rfl inT7 (i := 0) (by decide) wf_X7_7 rfl (fun _ _ => rfl) dX7_chain_105 ?_
    refine z_iload (pc := 108) (n := 5) dX7_chain_108 rfl ?_
    refine z_iconst (pc := 110) (a := 1) dX7_chain_110 rfl ?_
    obtain ⟨c2, Q⟩ := Q
    refine z_callS (pc := 111) (M := mX7_of) (as := [_, _]) (st := [_]) (c_X7_of c2 (by decide)) wt_X7_of wm_X7_of ⟨by omega, by decide⟩ wl_X7_69 dX7_chain_111 rfl (Nat.le_of_ble_eq_true rfl) rfl ?_
    rintro _ _ ⟨rfl, rfl⟩
    obtain ⟨c3, c4, Q⟩ := Q
    refine z_iald (pc := 114) za_ms c3 c4 dX7_chain_114 ?_
    refine z_top (fun x5 ex5 => ?_)
    replace Q := Q x5 ex5
    refine z_istore (pc := 115) (ls' := [(6, _), (0, _), (1, _), (2, _), (3, _), (4, _), (5, _)]) dX7_chain_115 (by decide) rfl ?_
    refine z_aload_n (pc := 117) (n := 1) dX7_chain_117 rfl rfl ?_
    refine z_getR (pc := 118) (q2 := 129) zo_Model rfl inT7 (i := 0) (by decide) wf_X7_7 rfl (fun _ _ => rfl) dX7_chain_118 ?_
    refine z_iload (pc := 121) (n := 6) dX7_chain_121 rfl ?_
    refine z_iconst (pc := 123) (a := 2) dX7_chain_123 rfl ?_
    obtain ⟨c6, Q⟩ := Q
    refine z_callS (pc := 124) (M := mX7_of) (as := [_, _]) (st := [_]) (c_X7_of c6 (by decide)) wt_X7_of wm_X7_of ⟨by omega, by decide⟩ wl_X7_69 dX7_chain_124 rfl (Nat.le_of_ble_eq_true rfl) rfl ?_
    rintro _ _ ⟨rfl, rfl⟩
    obtain ⟨c7, c8, Q⟩ := Q
    refine z_iald (pc := 127) za_ms c7 c8 dX7_chain_127 ?_
    refine z_top (fun x9 ex9 => ?_)
    replace Q := Q x9 ex9
    refine z_istore (pc := 128) (ls' := [(7, _), (6, _), (0, _), (1, _), (2, _), (3, _), (4, _), (5, _)]) dX7_chain_128 (by decide) rfl ?_
    refine z_aload_n (pc := 130) (n := 2) dX7_chain_130 rfl rfl ?_
    refine z_getR (pc := 131) (q2 := 129) zo_Model rfl inT7 (i := 0) (by decide) wf_X7_7 rfl (fun _ _ => rfl) dX7_chain_131 ?_
    refine z_iload (pc := 134) (n := 7) dX7_chain_134 rfl ?_
    refine z_iconst (pc := 136) (a := 3) dX7_chain_136 rfl ?_
    obtain ⟨c10, Q⟩ := Q
    refine z_callS (pc := 137) (M := mX7_of) (as := [_, _]) (st := [_]) (c_X7_of c10 (by decide)) wt_X7_of wm_X7_of ⟨by omega, by decide⟩ wl_X7_69 dX7_chain_137 rfl (Nat.le_of_ble_eq_true rfl) rfl ?_
    rintro _ _ ⟨rfl, rfl⟩
    obtain ⟨c11, c12, Q⟩ := Q
    refine z_iald (pc := 140) za_ms c11 c12 dX7_chain_140 ?_
    refine z_iload_n (pc := 141) (n := 3) dX7_chain_141 rfl rfl ?_
    refine z_icmp_ne (pc := 142) (tgt := 173) dX7_chain_142 (by decide) (fun c => ?_) (fun c => ?_)
    · replace Q := Q.1 c
      exact z_sub (ks := [2, 3, 4, 5, 6, 7, 1, 0]) rfl Q
    · replace Q := Q.2 c
      refine z_aload_n (pc := 145) (n := 2) dX7_chain_145 rfl rfl ?_
      refine z_getR (pc := 146) (q2 := 139) zo_Model rfl inT7 (i := 19) (by decide) wf_X7_48 rfl (fun _ _ => rfl) dX7_chain_146 ?_
      refine z_bipush (pc := 149) (a := 64) dX7_chain_149 rfl ?_
      refine z_iload (pc := 151) (n := 1) dX7_chain_151 rfl ?_
      refine z_imul (pc := 153) dX7_chain_153 ?_
      refine z_iload_n (pc := 154) (n := 5) dX7_chain_154 rfl rfl ?_
      refine z_iadd (pc := 155) dX7_chain_155 ?_
      obtain ⟨c13, c14, Q⟩ := Q
      refine z_zald (pc := 156) za_mends c13 c14 dX7_chain_156 ?_
      refine z_if_eq (pc := 157) (tgt := 173) dX7_chain_157 (by decide) (fun c => ?_) (fun c => ?_)
      · replace Q := Q.1 c
        exact z_sub (ks := [2, 3, 4, 5, 6, 7, 1, 0]) rfl Q
      · replace Q := Q.2 c
        refine z_iload_n (pc := 160) (n := 5) dX7_chain_160 rfl rfl ?_
        refine z_iload (pc := 161) (n := 0) dX7_chain_161 rfl ?_
        refine z_ishr (pc := 163) dX7_chain_163 ?_
        refine z_iconst (pc := 164) (a := 1) dX7_chain_164 rfl ?_
        refine z_iand (pc := 165) dX7_chain_165 ?_
        refine z_if_ne (pc := 166) (tgt := 173) dX7_chain_166 (by decide) (fun c => ?_) (fun c => ?_)
        · replace Q := Q.1 c
          exact z_sub (ks := [2, 3, 4, 5, 6, 7, 1, 0]) rfl Q
        · replace Q := Q.2 c
          refine z_iconst (pc := 169) (a := 1) dX7_chain_169 rfl ?_
          refine z_goto (pc := 170) (tgt := 174) dX7_chain_170 (by decide) ?_
          exact z_sub (ks := [2, 3, 4, 5, 6, 7, 1, 0]) rfl Q
set_option maxHeartbeats 4000000 in
set_option maxRecDepth 100000 in
theorem k_X7_chain_173 {d : Nat} {Post : Option zA → zH → Prop} {Γ : zCx} {h : zH} {v1 : Int} {v2 : Int} {v3 : Int} {v4 : Int} {v5 : Int} {v6 : Int} {v7 : Int}  (hd : 1 ≤ d) (Q :
 zV RX7 cX7_chain 9 (some .int) d Post Γ 174 [(0, zR 128), (1, zI v1), (2, zI v2), (3, zI v3), (4, zI v4), (5, zI v5), (6, zI v6), (7, zI v7)] [zI 0] h) :
    zV RX7 cX7_chain 9 (some .int) d Post Γ 173 [(0, zR 128), (1, zI v1), (2, zI v2), (3, zI v3), (4, zI v4), (5, zI v5), (6, zI v6), (7, zI v7)] [] h := by
  refine z_iconst (pc := 173) (a := 0) dX7_chain_173 rfl ?_
  exact z_sub (ks := [0, 1, 2, 3, 4, 5, 6, 7]) rfl Q
set_option maxHeartbeats 4000000 in
set_option maxRecDepth 100000 in
theorem k_X7_chain_174 {d : Nat} {Post : Option zA → zH → Prop} {Γ : zCx} {h : zH} {v1 : Int} {v2 : Int} {v3 : Int} {v4 : Int} {v5 : Int} {v6 : Int} {v7 : Int} {w0 : Int}  (hd : 1 ≤ d) (Q :
 ((w0 = 0 →
  zV RX7 cX7_chain 9 (some .int) d Post Γ 196 [(0, zR 128), (1, zI v1), (2, zI v2), (3, zI v3), (4, zI v4), (5, zI v5), (6, zI v6), (7, zI v7), (8, zI w0)] [] h) ∧
 (¬ w0 = 0 →
  (((zwr (v4 + 1)) ≤ v2 →
   zV RX7 cX7_chain 9 (some .int) d Post Γ 196 [(0, zR 128), (1, zI v1), (2, zI v2), (3, zI v3), (4, zI v4), (5, zI v5), (6, zI v6), (7, zI v7), (8, zI w0)] [] h) ∧
  (¬ (zwr (v4 + 1)) ≤ v2 →
   zV RX7 cX7_chain 9 (some .int) d Post Γ 197 [(0, zR 128), (1, zI v1), (2, zI v2), (3, zI v3), (4, zI v4), (5, zI v5), (6, zI v6), (7, zI v7), (8, zI w0)] [zI (zwr (v4 + 1))] h))))) :
    zV RX7 cX7_chain 9 (some .int) d Post Γ 174 [(0, zR 128), (1, zI v1), (2, zI v2), (3, zI v3), (4, zI v4), (5, zI v5), (6, zI v6), (7, zI v7)] [zI w0] h := by
  refine z_istore (pc := 174) (ls' := [(8, _), (0, _), (1, _), (2, _), (3, _), (4, _), (5, _), (6, _), (7, _)]) dX7_chain_174 (by decide) rfl ?_
  refine z_iload (pc := 176) (n := 0) dX7_chain_176 rfl ?_
  refine z_if_eq (pc := 178) (tgt := 196) dX7_chain_178 (by decide) (fun c => ?_) (fun c => ?_)
  · replace Q := Q.1 c
    exact z_sub (ks := [1, 2, 3, 4, 5, 6, 7, 8, 0]) rfl Q
  · replace Q := Q.2 c
    refine z_iload (pc := 181) (n := 5) dX7_chain_181 rfl ?_
    refine z_iconst (pc := 183) (a := 1) dX7_chain_183 rfl ?_
    refine z_iadd (pc := 184) dX7_chain_184 ?_
    refine z_iload_n (pc := 185) (n := 3) dX7_chain_185 rfl rfl ?_
    refine z_icmp_le (pc := 186) (tgt := 196) dX7_chain_186 (by decide) (fun c => ?_) (fun c => ?_)
    · replace Q := Q.1 c
      exact z_sub (ks := [1, 2, 3, 4, 5, 6, 7, 8, 0]) rfl Q
    · replace Q := Q.2 c
      refine z_iload (pc := 189) (n := 5) dX7_chain_189 rfl ?_
      refine z_iconst (pc := 191) (a := 1) dX7_chain_191 rfl ?_
      refine z_iadd (pc := 192) dX7_chain_192 ?_
      refine z_goto (pc := 193) (tgt := 197) dX7_chain_193 (by decide) ?_
      exact z_sub (ks := [1, 2, 3, 4, 5, 6, 7, 8, 0]) rfl Q
set_option maxHeartbeats 4000000 in
set_option maxRecDepth 100000 in
theorem k_X7_chain_196 {d : Nat} {Post : Option zA → zH → Prop} {Γ : zCx} {h : zH} {v1 : Int} {v2 : Int} {v3 : Int} {v4 : Int} {v5 : Int} {v6 : Int} {v7 : Int} {v8 : Int}  (hd : 1 ≤ d) (Q :
 zV RX7 cX7_chain 9 (some .int) d Post Γ 197 [(0, zR 128), (1, zI v1), (2, zI v2), (3, zI v3), (4, zI v4), (5, zI v5), (6, zI v6), (7, zI v7), (8, zI v8)] [zI v2] h) :
    zV RX7 cX7_chain 9 (some .int) d Post Γ 196 [(0, zR 128), (1, zI v1), (2, zI v2), (3, zI v3), (4, zI v4), (5, zI v5), (6, zI v6), (7, zI v7), (8, zI v8)] [] h := by
  refine z_iload_n (pc := 196) (n := 2) dX7_chain_196 rfl rfl ?_
  exact z_sub (ks := [0, 1, 2, 3, 4, 5, 6, 7, 8]) rfl Q
set_option maxHeartbeats 4000000 in
set_option maxRecDepth 100000 in
theorem k_X7_chain_197 {d : Nat} {Post : Option zA → zH → Prop} {Γ : zCx} {h : zH} {v1 : Int} {v2 : Int} {v3 : Int} {v4 : Int} {v5 : Int} {v6 : Int} {v7 : Int} {v8 : Int} {w0 : Int}  (hd : 1 ≤ d) (Q :
 ((v8 = 0 →
  ∀ x1 : Int, x1 = zwr (v5 + 1) →
  zV RX7 cX7_chain 9 (some .int) d Post Γ 91 [(0, zR 128), (1, zI v1), (2, zI w0), (3, zI v3), (4, zI v4), (5, zI x1)] [] h) ∧
 (¬ v8 = 0 →
  0 ≤ (zwr ((zwr (64 * v7)) + (zor v3 (zshl 1 v7)))) ∧ (zwr ((zwr (64 * v7)) + (zor v3 (zshl 1 v7)))) < 384 ∧
  ∀ h4 : zH, h4 = zu h 139 (zwr ((zwr (64 * v7)) + (zor v3 (zshl 1 v7)))).toNat 1 →
  ∀ x5 : Int, x5 = zwr (v5 + 1) →
  zV RX7 cX7_chain 9 (some .int) d Post Γ 91 [(0, zR 128), (1, zI v1), (2, zI w0), (3, zI v3), (4, zI v4), (5, zI x5)] [] h4))) :
    zV RX7 cX7_chain 9 (some .int) d Post Γ 197 [(0, zR 128), (1, zI v1), (2, zI v2), (3, zI v3), (4, zI v4), (5, zI v5), (6, zI v6), (7, zI v7), (8, zI v8)] [zI w0] h := by
  refine z_istore_n (pc := 197) (ls' := [(2, _), (0, _), (1, _), (3, _), (4, _), (5, _), (6, _), (7, _), (8, _)]) dX7_chain_197 rfl (by decide) rfl ?_
  refine z_iload (pc := 198) (n := 8) dX7_chain_198 rfl ?_
  refine z_if_eq (pc := 200) (tgt := 221) dX7_chain_200 (by decide) (fun c => ?_) (fun c => ?_)
  · replace Q := Q.1 c
    refine z_iincg (pc := 221) (n := 5) (lf := fun y => [(5, zI y), (2, _), (0, _), (1, _), (3, _), (4, _), (6, _), (7, _), (8, _)]) dX7_chain_221 rfl (by decide) (fun _ => rfl) (fun x1 ex1 => ?_)
    replace Q := Q x1 ex1
    refine z_goto (pc := 224) (tgt := 91) dX7_chain_224 (by decide) ?_
    exact z_sub (ks := [2, 3, 1, 4, 5, 0]) rfl Q
  · replace Q := Q.2 c
    refine z_aload_n (pc := 203) (n := 1) dX7_chain_203 rfl rfl ?_
    refine z_getR (pc := 204) (q2 := 139) zo_Model rfl inT7 (i := 19) (by decide) wf_X7_48 rfl (fun _ _ => rfl) dX7_chain_204 ?_
    refine z_bipush (pc := 207) (a := 64) dX7_chain_207 rfl ?_
    refine z_iload (pc := 209) (n := 7) dX7_chain_209 rfl ?_
    refine z_imul (pc := 211) dX7_chain_211 ?_
    refine z_iload_n (pc := 212) (n := 3) dX7_chain_212 rfl rfl ?_
    refine z_iconst (pc := 213) (a := 1) dX7_chain_213 rfl ?_
    refine z_iload (pc := 214) (n := 7) dX7_chain_214 rfl ?_
    refine z_ishl (pc := 216) dX7_chain_216 ?_
    refine z_ior (pc := 217) dX7_chain_217 ?_
    refine z_iadd (pc := 218) dX7_chain_218 ?_
    refine z_iconst (pc := 219) (a := 1) dX7_chain_219 rfl ?_
    obtain ⟨c2, c3, Q⟩ := Q
    refine z_zast (pc := 220) za_mends c2 c3 (by decide) dX7_chain_220 ?_
    refine z_heap (fun h4 eh4 => ?_)
    replace Q := Q h4 eh4
    refine z_iincg (pc := 221) (n := 5) (lf := fun y => [(5, zI y), (2, _), (0, _), (1, _), (3, _), (4, _), (6, _), (7, _), (8, _)]) dX7_chain_221 rfl (by decide) (fun _ => rfl) (fun x5 ex5 => ?_)
    replace Q := Q x5 ex5
    refine z_goto (pc := 224) (tgt := 91) dX7_chain_224 (by decide) ?_
    exact z_sub (ks := [2, 3, 1, 4, 5, 0]) rfl Q
set_option maxHeartbeats 4000000 in
set_option maxRecDepth 100000 in
theorem k_X7_claim_0 {d : Nat} {Post : Option zA → zH → Prop} {Γ : zCx} {h : zH} {a1 : Int} {a2 : Int} {a3 : Int}  (hd : 4 ≤ d) (Q :
 (((0 ≤ a1 ∧ a1 ≤ 5) ∧ 0 ≤ a2 ∧ a2 ≤ 5 →
  ∃ (d1 : Nat) (P2 : Option zA → zH → Prop), d1 + 1 ≤ d ∧ zSp d1 mX7_placeOfClaim [zR 128, zI a1, zI a2] h P2 ∧ ∀ r3 h4, P2 r3 h4 →
  ∃ x7 : Int, r3 = some (zI x7) ∧
  ((x7 = (-5) →
   zV RX7 cX7_claim 5 (some .int) d Post Γ 30 [(0, zR 128), (1, zI a1), (2, zI a2), (3, zI a3), (4, zI x7)] [zI 0] h4) ∧
  (¬ x7 = (-5) →
   zV RX7 cX7_claim 5 (some .int) d Post Γ 30 [(0, zR 128), (1, zI a1), (2, zI a2), (3, zI a3), (4, zI x7)] [zI 1] h4))) ∧
 (¬ ((0 ≤ a1 ∧ a1 ≤ 5) ∧ 0 ≤ a2 ∧ a2 ≤ 5) →
  Post (some (zI (-1))) h))) :
    zV RX7 cX7_claim 5 (some .int) d Post Γ 0 [(0, zR 128), (1, zI a1), (2, zI a2), (3, zI a3)] [] h := by
  refine z_iload_n (pc := 0) (n := 1) dX7_claim_0 rfl rfl ?_
  refine z_iload_n (pc := 1) (n := 2) dX7_claim_1 rfl rfl ?_
  refine z_callS (pc := 2) (M := mX7_areBoth) (as := [_, _]) (st := []) c_X7_areBoth wt_X7_areBoth wm_X7_areBoth ⟨by omega, by decide⟩ wl_X7_106 dX7_claim_2 rfl (Nat.le_of_ble_eq_true rfl) rfl ?_
  rintro _ _ ⟨rfl, rfl⟩
  refine z_ifb_ne (pc := 5) (tgt := 10) dX7_claim_5 (by decide) (fun c => ?_) (fun c => ?_)
  · replace Q := Q.1 c
    refine z_aload_n (pc := 10) (n := 0) dX7_claim_10 rfl rfl ?_
    refine z_iload_n (pc := 11) (n := 1) dX7_claim_11 rfl rfl ?_
    refine z_iload_n (pc := 12) (n := 2) dX7_claim_12 rfl rfl ?_
    obtain ⟨d1, P2, e5, s6, Q⟩ := Q
    refine z_callV (pc := 13) (M := mX7_placeOfClaim) (as := [_, _]) (st := []) s6 zo_Model rfl wi_X7_placeOfClaim wm_X7_placeOfClaim ⟨by omega, by decide⟩ wl_X7_135 dX7_claim_13 rfl (Nat.le_of_ble_eq_true rfl) rfl ?_
    intro r3 h4 s6
    obtain ⟨x7, rfl, Q⟩ := Q _ _ s6
    refine z_istore (pc := 16) (ls' := [(4, _), (0, _), (1, _), (2, _), (3, _)]) dX7_claim_16 (by decide) rfl ?_
    refine z_iload (pc := 18) (n := 0) dX7_claim_18 rfl ?_
    refine z_bipush (pc := 20) (a := -5) dX7_claim_20 rfl ?_
    refine z_icmp_eq (pc := 22) (tgt := 29) dX7_claim_22 (by decide) (fun c => ?_) (fun c => ?_)
    · replace Q := Q.1 c
      refine z_iconst (pc := 29) (a := 0) dX7_claim_29 rfl ?_
      exact z_sub (ks := [1, 2, 3, 4, 0]) rfl Q
    · replace Q := Q.2 c
      refine z_iconst (pc := 25) (a := 1) dX7_claim_25 rfl ?_
      refine z_goto (pc := 26) (tgt := 30) dX7_claim_26 (by decide) ?_
      exact z_sub (ks := [1, 2, 3, 4, 0]) rfl Q
  · replace Q := Q.2 c
    refine z_iconst (pc := 8) (a := -1) dX7_claim_8 rfl ?_
    exact z_iret (pc := 9) rfl dX7_claim_9 Q
set_option maxHeartbeats 4000000 in
set_option maxRecDepth 100000 in
theorem k_X7_claim_30 {d : Nat} {Post : Option zA → zH → Prop} {Γ : zCx} {h : zH} {v1 : Int} {v2 : Int} {v3 : Int} {v4 : Int} {w0 : Int}  (hd : 1 ≤ d) (Q :
 ((¬ w0 = v3 →
  ∃ (d1 : Nat) (P2 : Option zA → zH → Prop), d1 + 1 ≤ d ∧ zSp d1 mX7_know [zR 128] h P2 ∧ ∀ r3 h4, P2 r3 h4 →
  r3 = none ∧
  ((v3 = 0 →
   ∃ (d7 : Nat) (P8 : Option zA → zH → Prop), d7 + 1 ≤ d ∧ zSp d7 mX7_dropClaim [zR 128, zI v2, zI v4] h4 P8 ∧ ∀ r9 h10, P8 r9 h10 →
   r9 = none ∧
   0 ≤ (zwr (108 + v2)) ∧ (zwr (108 + v2)) < 336 ∧
   Post (some (zI (h10 129 (zwr (108 + v2)).toNat))) h10) ∧
  (¬ v3 = 0 →
   0 ≤ (zwr (108 + v2)) ∧ (zwr (108 + v2)) < 336 ∧
   0 ≤ (zwr ((zwr (72 + (zwr (6 * v2)))) + (h4 129 (zwr (108 + v2)).toNat))) ∧ (zwr ((zwr (72 + (zwr (6 * v2)))) + (h4 129 (zwr (108 + v2)).toNat))) < 336 ∧
   ∀ h19 : zH, h19 = zu h4 129 (zwr ((zwr (72 + (zwr (6 * v2)))) + (h4 129 (zwr (108 + v2)).toNat))).toNat v1 →
   0 ≤ (zwr (108 + v2)) ∧ (zwr (108 + v2)) < 336 ∧
   0 ≤ (zwr (108 + v2)) ∧ (zwr (108 + v2)) < 336 ∧
   ∀ h24 : zH, h24 = zu h19 129 (zwr (108 + v2)).toNat (zwr ((h19 129 (zwr (108 + v2)).toNat) + 1)) →
   0 ≤ (zwr (108 + v2)) ∧ (zwr (108 + v2)) < 336 ∧
   Post (some (zI (h24 129 (zwr (108 + v2)).toNat))) h24))) ∧
 (w0 = v3 →
  Post (some (zI (-5))) h))) :
    zV RX7 cX7_claim 5 (some .int) d Post Γ 30 [(0, zR 128), (1, zI v1), (2, zI v2), (3, zI v3), (4, zI v4)] [zI w0] h := by
  refine z_iload_n (pc := 30) (n := 3) dX7_claim_30 rfl rfl ?_
  refine z_icmp_ne (pc := 31) (tgt := 37) dX7_claim_31 (by decide) (fun c => ?_) (fun c => ?_)
  · replace Q := Q.1 c
    refine z_aload_n (pc := 37) (n := 0) dX7_claim_37 rfl rfl ?_
    obtain ⟨d1, P2, e5, s6, Q⟩ := Q
    refine z_callV (pc := 38) (M := mX7_know) (as := []) (st := []) s6 zo_Model rfl wi_X7_know wm_X7_know ⟨by omega, by decide⟩ wl_X7_114 dX7_claim_38 rfl (Nat.le_of_ble_eq_true rfl) rfl ?_
    intro r3 h4 s6
    obtain ⟨rfl, Q⟩ := Q _ _ s6
    refine z_iload_n (pc := 41) (n := 3) dX7_claim_41 rfl rfl ?_
    refine z_if_eq (pc := 42) (tgt := 84) dX7_claim_42 (by decide) (fun c => ?_) (fun c => ?_)
    · replace Q := Q.1 c
      refine z_aload_n (pc := 84) (n := 0) dX7_claim_84 rfl rfl ?_
      refine z_iload_n (pc := 85) (n := 2) dX7_claim_85 rfl rfl ?_
      refine z_iload (pc := 86) (n := 4) dX7_claim_86 rfl ?_
      obtain ⟨d7, P8, e11, s12, Q⟩ := Q
      refine z_callV (pc := 88) (M := mX7_dropClaim) (as := [_, _]) (st := []) s12 zo_Model rfl wi_X7_dropClaim wm_X7_dropClaim ⟨by omega, by decide⟩ wl_X7_138 dX7_claim_88 rfl (Nat.le_of_ble_eq_true rfl) rfl ?_
      intro r9 h10 s12
      obtain ⟨rfl, Q⟩ := Q _ _ s12
      refine z_aload_n (pc := 91) (n := 0) dX7_claim_91 rfl rfl ?_
      refine z_getR (pc := 92) (q2 := 129) zo_Model rfl inT7 (i := 0) (by decide) wf_X7_7 rfl (fun _ _ => rfl) dX7_claim_92 ?_
      refine z_bipush (pc := 95) (a := 108) dX7_claim_95 rfl ?_
      refine z_iload_n (pc := 97) (n := 2) dX7_claim_97 rfl rfl ?_
      refine z_iadd (pc := 98) dX7_claim_98 ?_
      obtain ⟨c13, c14, Q⟩ := Q
      refine z_iald (pc := 99) za_ms c13 c14 dX7_claim_99 ?_
      exact z_iret (pc := 100) rfl dX7_claim_100 Q
    · replace Q := Q.2 c
      refine z_aload_n (pc := 45) (n := 0) dX7_claim_45 rfl rfl ?_
      refine z_getR (pc := 46) (q2 := 129) zo_Model rfl inT7 (i := 0) (by decide) wf_X7_7 rfl (fun _ _ => rfl) dX7_claim_46 ?_
      refine z_bipush (pc := 49) (a := 72) dX7_claim_49 rfl ?_
      refine z_bipush (pc := 51) (a := 6) dX7_claim_51 rfl ?_
      refine z_iload_n (pc := 53) (n := 2) dX7_claim_53 rfl rfl ?_
      refine z_imul (pc := 54) dX7_claim_54 ?_
      refine z_iadd (pc := 55) dX7_claim_55 ?_
      refine z_aload_n (pc := 56) (n := 0) dX7_claim_56 rfl rfl ?_
      refine z_getR (pc := 57) (q2 := 129) zo_Model rfl inT7 (i := 0) (by decide) wf_X7_7 rfl (fun _ _ => rfl) dX7_claim_57 ?_
      refine z_bipush (pc := 60) (a := 108) dX7_claim_60 rfl ?_
      refine z_iload_n (pc := 62) (n := 2) dX7_claim_62 rfl rfl ?_
      refine z_iadd (pc := 63) dX7_claim_63 ?_
      obtain ⟨c15, c16, Q⟩ := Q
      refine z_iald (pc := 64) za_ms c15 c16 dX7_claim_64 ?_
      refine z_iadd (pc := 65) dX7_claim_65 ?_
      refine z_iload_n (pc := 66) (n := 1) dX7_claim_66 rfl rfl ?_
      obtain ⟨c17, c18, Q⟩ := Q
      refine z_iast (pc := 67) za_ms c17 c18 dX7_claim_67 ?_
      refine z_heap (fun h19 eh19 => ?_)
      replace Q := Q h19 eh19
      refine z_aload_n (pc := 68) (n := 0) dX7_claim_68 rfl rfl ?_
      refine z_getR (pc := 69) (q2 := 129) zo_Model rfl inT7 (i := 0) (by decide) wf_X7_7 rfl (fun _ _ => rfl) dX7_claim_69 ?_
      refine z_bipush (pc := 72) (a := 108) dX7_claim_72 rfl ?_
      refine z_iload_n (pc := 74) (n := 2) dX7_claim_74 rfl rfl ?_
      refine z_iadd (pc := 75) dX7_claim_75 ?_
      refine z_dup2 (pc := 76) dX7_claim_76 rfl rfl ?_
      obtain ⟨c20, c21, Q⟩ := Q
      refine z_iald (pc := 77) za_ms c20 c21 dX7_claim_77 ?_
      refine z_iconst (pc := 78) (a := 1) dX7_claim_78 rfl ?_
      refine z_iadd (pc := 79) dX7_claim_79 ?_
      obtain ⟨c22, c23, Q⟩ := Q
      refine z_iast (pc := 80) za_ms c22 c23 dX7_claim_80 ?_
      refine z_heap (fun h24 eh24 => ?_)
      replace Q := Q h24 eh24
      refine z_goto (pc := 81) (tgt := 91) dX7_claim_81 (by decide) ?_
      refine z_aload_n (pc := 91) (n := 0) dX7_claim_91 rfl rfl ?_
      refine z_getR (pc := 92) (q2 := 129) zo_Model rfl inT7 (i := 0) (by decide) wf_X7_7 rfl (fun _ _ => rfl) dX7_claim_92 ?_
      refine z_bipush (pc := 95) (a := 108) dX7_claim_95 rfl ?_
      refine z_iload_n (pc := 97) (n := 2) dX7_claim_97 rfl rfl ?_
      refine z_iadd (pc := 98) dX7_claim_98 ?_
      obtain ⟨c25, c26, Q⟩ := Q
      refine z_iald (pc := 99) za_ms c25 c26 dX7_claim_99 ?_
      exact z_iret (pc := 100) rfl dX7_claim_100 Q
  · replace Q := Q.2 c
    refine z_bipush (pc := 34) (a := -5) dX7_claim_34 rfl ?_
    exact z_iret (pc := 36) rfl dX7_claim_36 Q
set_option maxHeartbeats 4000000 in
set_option maxRecDepth 100000 in
theorem k_X7_clearText_0 {d : Nat} {Post : Option zA → zH → Prop} {Γ : zCx} {h : zH}   (hd : 1 ≤ d) (Q :
 ∀ x1 : Int, x1 = (h 128 8) →
 ∀ h2 : zH, h2 = zu h 128 8 0 →
 Post (some (zI x1)) h2) :
    zV RX7 cX7_clearText 2 (some .int) d Post Γ 0 [(0, zR 128)] [] h := by
  refine z_aload_n (pc := 0) (n := 0) dX7_clearText_0 rfl rfl ?_
  refine z_getI (pc := 1) zo_Model rfl inT7 (i := 8) (by decide) wf_X7_148 rfl (fun _ _ => rfl) dX7_clearText_1 ?_
  refine z_top (fun x1 ex1 => ?_)
  replace Q := Q x1 ex1
  refine z_istore_n (pc := 4) (ls' := [(1, _), (0, _)]) dX7_clearText_4 rfl (by decide) rfl ?_
  refine z_aload_n (pc := 5) (n := 1) dX7_clearText_5 rfl rfl ?_
  refine z_iconst (pc := 6) (a := 0) dX7_clearText_6 rfl ?_
  refine z_putI (pc := 7) zo_Model rfl inT7 (i := 8) (by decide) wf_X7_148 rfl tyX7 tyX7_ok nmX7 rfl (fun _ _ => Nat.le_of_ble_eq_true rfl) (fun _ _ _ => rfl) rfl dX7_clearText_7 ?_
  refine z_heap (fun h2 eh2 => ?_)
  replace Q := Q h2 eh2
  refine z_iload_n (pc := 10) (n := 0) dX7_clearText_10 rfl rfl ?_
  exact z_iret (pc := 11) rfl dX7_clearText_11 Q
set_option maxHeartbeats 4000000 in
set_option maxRecDepth 100000 in
theorem k_X7_count_0 {d : Nat} {Post : Option zA → zH → Prop} {Γ : zCx} {h : zH} {a1 : Int}  (hd : 1 ≤ d) (Q :
 ((a1 = 0 →
  Post (some (zI (h 129 132))) h) ∧
 (a1 = 1 →
  Post (some (zI (h 129 133))) h) ∧
 (a1 = 2 →
  ∃ (d1 : Nat) (P2 : Option zA → zH → Prop), d1 + 1 ≤ d ∧ zSp d1 mX7_sumOfCells [zR 128, zI a1] h P2 ∧ ∀ r3 h4, P2 r3 h4 →
  ∃ x7 : Int, r3 = some (zI x7) ∧
  Post (some (zI x7)) h4) ∧
 (a1 = 3 →
  ∃ (d8 : Nat) (P9 : Option zA → zH → Prop), d8 + 1 ≤ d ∧ zSp d8 mX7_sumOfCells [zR 128, zI a1] h P9 ∧ ∀ r10 h11, P9 r10 h11 →
  ∃ x14 : Int, r10 = some (zI x14) ∧
  Post (some (zI x14)) h11) ∧
 (a1 = 4 →
  Post (some (zI (h 129 134))) h) ∧
 (a1 = 5 →
  Post (some (zI (h 129 135))) h) ∧
 (a1 = 6 →
  ∃ (d15 : Nat) (P16 : Option zA → zH → Prop), d15 + 1 ≤ d ∧ zSp d15 mX7_sumOfCells [zR 128, zI a1] h P16 ∧ ∀ r17 h18, P16 r17 h18 →
  ∃ x21 : Int, r17 = some (zI x21) ∧
  Post (some (zI x21)) h18) ∧
 (a1 = 7 →
  Post (some (zI (h 128 4))) h) ∧
 (a1 = 8 →
  Post (some (zI (h 128 8))) h) ∧
 ((a1 < 0 ∨ 8 < a1) →
  Post (some (zI (-2))) h))) :
    zV RX7 cX7_count 2 (some .int) d Post Γ 0 [(0, zR 128), (1, zI a1)] [] h := by
  refine z_iload_n (pc := 0) (n := 1) dX7_count_0 rfl rfl ?_
  rcases (show a1 = 0 ∨ a1 = 1 ∨ a1 = 2 ∨ a1 = 3 ∨ a1 = 4 ∨ a1 = 5 ∨ a1 = 6 ∨ a1 = 7 ∨ a1 = 8 ∨ (a1 < 0 ∨ 8 < a1) by omega) with c | c | c | c | c | c | c | c | c | c
  · replace Q := Q.1 c
    refine z_tableIn (pc := 1) (n := 0) (tgt := 52) dX7_count_1 (by omega) (by decide) rfl (by decide) ?_
    refine z_aload_n (pc := 52) (n := 0) dX7_count_52 rfl rfl ?_
    refine z_getR (pc := 53) (q2 := 129) zo_Model rfl inT7 (i := 0) (by decide) wf_X7_7 rfl (fun _ _ => rfl) dX7_count_53 ?_
    refine z_sipush (pc := 56) (a := 132) dX7_count_56 rfl ?_
    refine z_iald (pc := 59) za_ms (by decide) (by decide) dX7_count_59 ?_
    exact z_iret (pc := 60) rfl dX7_count_60 Q
  · replace Q := Q.2.1 c
    refine z_tableIn (pc := 1) (n := 1) (tgt := 61) dX7_count_1 (by omega) (by decide) rfl (by decide) ?_
    refine z_aload_n (pc := 61) (n := 0) dX7_count_61 rfl rfl ?_
    refine z_getR (pc := 62) (q2 := 129) zo_Model rfl inT7 (i := 0) (by decide) wf_X7_7 rfl (fun _ _ => rfl) dX7_count_62 ?_
    refine z_sipush (pc := 65) (a := 133) dX7_count_65 rfl ?_
    refine z_iald (pc := 68) za_ms (by decide) (by decide) dX7_count_68 ?_
    exact z_iret (pc := 69) rfl dX7_count_69 Q
  · replace Q := Q.2.2.1 c
    refine z_tableIn (pc := 1) (n := 2) (tgt := 70) dX7_count_1 (by omega) (by decide) rfl (by decide) ?_
    refine z_aload_n (pc := 70) (n := 0) dX7_count_70 rfl rfl ?_
    refine z_iload_n (pc := 71) (n := 1) dX7_count_71 rfl rfl ?_
    obtain ⟨d1, P2, e5, s6, Q⟩ := Q
    refine z_callV (pc := 72) (M := mX7_sumOfCells) (as := [_]) (st := []) s6 zo_Model rfl wi_X7_sumOfCells wm_X7_sumOfCells ⟨by omega, by decide⟩ wl_X7_196 dX7_count_72 rfl (Nat.le_of_ble_eq_true rfl) rfl ?_
    intro r3 h4 s6
    obtain ⟨x7, rfl, Q⟩ := Q _ _ s6
    exact z_iret (pc := 75) rfl dX7_count_75 Q
  · replace Q := Q.2.2.2.1 c
    refine z_tableIn (pc := 1) (n := 3) (tgt := 70) dX7_count_1 (by omega) (by decide) rfl (by decide) ?_
    refine z_aload_n (pc := 70) (n := 0) dX7_count_70 rfl rfl ?_
    refine z_iload_n (pc := 71) (n := 1) dX7_count_71 rfl rfl ?_
    obtain ⟨d8, P9, e12, s13, Q⟩ := Q
    refine z_callV (pc := 72) (M := mX7_sumOfCells) (as := [_]) (st := []) s13 zo_Model rfl wi_X7_sumOfCells wm_X7_sumOfCells ⟨by omega, by decide⟩ wl_X7_196 dX7_count_72 rfl (Nat.le_of_ble_eq_true rfl) rfl ?_
    intro r10 h11 s13
    obtain ⟨x14, rfl, Q⟩ := Q _ _ s13
    exact z_iret (pc := 75) rfl dX7_count_75 Q
  · replace Q := Q.2.2.2.2.1 c
    refine z_tableIn (pc := 1) (n := 4) (tgt := 76) dX7_count_1 (by omega) (by decide) rfl (by decide) ?_
    refine z_aload_n (pc := 76) (n := 0) dX7_count_76 rfl rfl ?_
    refine z_getR (pc := 77) (q2 := 129) zo_Model rfl inT7 (i := 0) (by decide) wf_X7_7 rfl (fun _ _ => rfl) dX7_count_77 ?_
    refine z_sipush (pc := 80) (a := 134) dX7_count_80 rfl ?_
    refine z_iald (pc := 83) za_ms (by decide) (by decide) dX7_count_83 ?_
    exact z_iret (pc := 84) rfl dX7_count_84 Q
  · replace Q := Q.2.2.2.2.2.1 c
    refine z_tableIn (pc := 1) (n := 5) (tgt := 85) dX7_count_1 (by omega) (by decide) rfl (by decide) ?_
    refine z_aload_n (pc := 85) (n := 0) dX7_count_85 rfl rfl ?_
    refine z_getR (pc := 86) (q2 := 129) zo_Model rfl inT7 (i := 0) (by decide) wf_X7_7 rfl (fun _ _ => rfl) dX7_count_86 ?_
    refine z_sipush (pc := 89) (a := 135) dX7_count_89 rfl ?_
    refine z_iald (pc := 92) za_ms (by decide) (by decide) dX7_count_92 ?_
    exact z_iret (pc := 93) rfl dX7_count_93 Q
  · replace Q := Q.2.2.2.2.2.2.1 c
    refine z_tableIn (pc := 1) (n := 6) (tgt := 70) dX7_count_1 (by omega) (by decide) rfl (by decide) ?_
    refine z_aload_n (pc := 70) (n := 0) dX7_count_70 rfl rfl ?_
    refine z_iload_n (pc := 71) (n := 1) dX7_count_71 rfl rfl ?_
    obtain ⟨d15, P16, e19, s20, Q⟩ := Q
    refine z_callV (pc := 72) (M := mX7_sumOfCells) (as := [_]) (st := []) s20 zo_Model rfl wi_X7_sumOfCells wm_X7_sumOfCells ⟨by omega, by decide⟩ wl_X7_196 dX7_count_72 rfl (Nat.le_of_ble_eq_true rfl) rfl ?_
    intro r17 h18 s20
    obtain ⟨x21, rfl, Q⟩ := Q _ _ s20
    exact z_iret (pc := 75) rfl dX7_count_75 Q
  · replace Q := Q.2.2.2.2.2.2.2.1 c
    refine z_tableIn (pc := 1) (n := 7) (tgt := 94) dX7_count_1 (by omega) (by decide) rfl (by decide) ?_
    refine z_aload_n (pc := 94) (n := 0) dX7_count_94 rfl rfl ?_
    refine z_getI (pc := 95) zo_Model rfl inT7 (i := 4) (by decide) wf_X7_66 rfl (fun _ _ => rfl) dX7_count_95 ?_
    exact z_iret (pc := 98) rfl dX7_count_98 Q
  · replace Q := Q.2.2.2.2.2.2.2.2.1 c
    refine z_tableIn (pc := 1) (n := 8) (tgt := 99) dX7_count_1 (by omega) (by decide) rfl (by decide) ?_
    refine z_aload_n (pc := 99) (n := 0) dX7_count_99 rfl rfl ?_
    refine z_getI (pc := 100) zo_Model rfl inT7 (i := 8) (by decide) wf_X7_148 rfl (fun _ _ => rfl) dX7_count_100 ?_
    exact z_iret (pc := 103) rfl dX7_count_103 Q
  · replace Q := Q.2.2.2.2.2.2.2.2.2 c
    refine z_tableOut (pc := 1) (tgt := 104) dX7_count_1 c (by decide) ?_
    refine z_bipush (pc := 104) (a := -2) dX7_count_104 rfl ?_
    exact z_iret (pc := 106) rfl dX7_count_106 Q
set_option maxHeartbeats 4000000 in
set_option maxRecDepth 100000 in
theorem k_X7_digit_0 {d : Nat} {Post : Option zA → zH → Prop} {Γ : zCx} {h : zH}   (hd : 1 ≤ d) (Q :
 ∃ (d1 : Nat) (P2 : Option zA → zH → Prop), d1 + 1 ≤ d ∧ zSp d1 mX7_sign [zR 128, zI 48, zI 53] h P2 ∧ ∀ r3 h4, P2 r3 h4 →
 ∃ x7 : Int, r3 = some (zI x7) ∧
 Post (some (zI (zwr (x7 - 48)))) h4) :
    zV RX7 cX7_digit 1 (some .int) d Post Γ 0 [(0, zR 128)] [] h := by
  refine z_aload_n (pc := 0) (n := 0) dX7_digit_0 rfl rfl ?_
  refine z_bipush (pc := 1) (a := 48) dX7_digit_1 rfl ?_
  refine z_bipush (pc := 3) (a := 53) dX7_digit_3 rfl ?_
  obtain ⟨d1, P2, e5, s6, Q⟩ := Q
  refine z_callV (pc := 5) (M := mX7_sign) (as := [_, _]) (st := []) s6 zo_Model rfl wi_X7_sign wm_X7_sign ⟨by omega, by decide⟩ wl_X7_158 dX7_digit_5 rfl (Nat.le_of_ble_eq_true rfl) rfl ?_
  intro r3 h4 s6
  obtain ⟨x7, rfl, Q⟩ := Q _ _ s6
  refine z_bipush (pc := 8) (a := 48) dX7_digit_8 rfl ?_
  refine z_isub (pc := 10) dX7_digit_10 ?_
  exact z_iret (pc := 11) rfl dX7_digit_11 Q
set_option maxHeartbeats 4000000 in
set_option maxRecDepth 100000 in
theorem k_X7_does_0 {d : Nat} {Post : Option zA → zH → Prop} {Γ : zCx} {h : zH}   (hd : 1 ≤ d) (Q :
 ∀ x1 : Int, x1 = (h 138 0) →
 ∀ x2 : Int, x2 = (h 138 1) →
 ∀ x3 : Int, x3 = (h 138 3) →
 ((¬ x1 = 108 →
  ((¬ x1 = 98 →
   ((¬ x1 = 119 →
    zV RX7 cX7_does 6 (some .int) d Post Γ 84 [(0, zR 128), (1, zI x1), (2, zI x2), (3, zI x3)] [zI 0] h) ∧
   (x1 = 119 →
    ∃ (d4 : Nat) (P5 : Option zA → zH → Prop), d4 + 1 ≤ d ∧ zSp d4 mX7_writeFault [zR 128, zI x2, zI x3, zI (h 138 4)] h P5 ∧ ∀ r6 h7, P5 r6 h7 →
    ∃ x10 : Int, r6 = some (zI x10) ∧
    zV RX7 cX7_does 6 (some .int) d Post Γ 84 [(0, zR 128), (1, zI x1), (2, zI x2), (3, zI x3)] [zI x10] h7))) ∧
  (x1 = 98 →
   ∃ (d11 : Nat) (P12 : Option zA → zH → Prop), d11 + 1 ≤ d ∧ zSp d11 mX7_backFault [zR 128, zI x2] h P12 ∧ ∀ r13 h14, P12 r13 h14 →
   ∃ x17 : Int, r13 = some (zI x17) ∧
   zV RX7 cX7_does 6 (some .int) d Post Γ 84 [(0, zR 128), (1, zI x1), (2, zI x2), (3, zI x3)] [zI x17] h14))) ∧
 (x1 = 108 →
  ∃ (d18 : Nat) (P19 : Option zA → zH → Prop), d18 + 1 ≤ d ∧ zSp d18 mX7_lendFault [zR 128, zI x2, zI (h 138 2), zI x3, zI (h 138 4)] h P19 ∧ ∀ r20 h21, P19 r20 h21 →
  ∃ x24 : Int, r20 = some (zI x24) ∧
  zV RX7 cX7_does 6 (some .int) d Post Γ 84 [(0, zR 128), (1, zI x1), (2, zI x2), (3, zI x3)] [zI x24] h21))) :
    zV RX7 cX7_does 6 (some .int) d Post Γ 0 [(0, zR 128)] [] h := by
  refine z_aload_n (pc := 0) (n := 0) dX7_does_0 rfl rfl ?_
  refine z_getR (pc := 1) (q2 := 138) zo_Model rfl inT7 (i := 17) (by decide) wf_X7_45 rfl (fun _ _ => rfl) dX7_does_1 ?_
  refine z_iconst (pc := 4) (a := 0) dX7_does_4 rfl ?_
  refine z_iald (pc := 5) za_mtold (by decide) (by decide) dX7_does_5 ?_
  refine z_top (fun x1 ex1 => ?_)
  replace Q := Q x1 ex1
  refine z_istore_n (pc := 6) (ls' := [(1, _), (0, _)]) dX7_does_6 rfl (by decide) rfl ?_
  refine z_aload_n (pc := 7) (n := 1) dX7_does_7 rfl rfl ?_
  refine z_getR (pc := 8) (q2 := 138) zo_Model rfl inT7 (i := 17) (by decide) wf_X7_45 rfl (fun _ _ => rfl) dX7_does_8 ?_
  refine z_iconst (pc := 11) (a := 1) dX7_does_11 rfl ?_
  refine z_iald (pc := 12) za_mtold (by decide) (by decide) dX7_does_12 ?_
  refine z_top (fun x2 ex2 => ?_)
  replace Q := Q x2 ex2
  refine z_istore_n (pc := 13) (ls' := [(2, _), (1, _), (0, _)]) dX7_does_13 rfl (by decide) rfl ?_
  refine z_aload_n (pc := 14) (n := 2) dX7_does_14 rfl rfl ?_
  refine z_getR (pc := 15) (q2 := 138) zo_Model rfl inT7 (i := 17) (by decide) wf_X7_45 rfl (fun _ _ => rfl) dX7_does_15 ?_
  refine z_iconst (pc := 18) (a := 3) dX7_does_18 rfl ?_
  refine z_iald (pc := 19) za_mtold (by decide) (by decide) dX7_does_19 ?_
  refine z_top (fun x3 ex3 => ?_)
  replace Q := Q x3 ex3
  refine z_istore_n (pc := 20) (ls' := [(3, _), (2, _), (1, _), (0, _)]) dX7_does_20 rfl (by decide) rfl ?_
  refine z_iload_n (pc := 21) (n := 2) dX7_does_21 rfl rfl ?_
  refine z_bipush (pc := 22) (a := 108) dX7_does_22 rfl ?_
  refine z_icmp_ne (pc := 24) (tgt := 48) dX7_does_24 (by decide) (fun c => ?_) (fun c => ?_)
  · replace Q := Q.1 c
    refine z_iload_n (pc := 48) (n := 2) dX7_does_48 rfl rfl ?_
    refine z_bipush (pc := 49) (a := 98) dX7_does_49 rfl ?_
    refine z_icmp_ne (pc := 51) (tgt := 62) dX7_does_51 (by decide) (fun c => ?_) (fun c => ?_)
    · replace Q := Q.1 c
      refine z_iload_n (pc := 62) (n := 2) dX7_does_62 rfl rfl ?_
      refine z_bipush (pc := 63) (a := 119) dX7_does_63 rfl ?_
      refine z_icmp_ne (pc := 65) (tgt := 83) dX7_does_65 (by decide) (fun c => ?_) (fun c => ?_)
      · replace Q := Q.1 c
        refine z_iconst (pc := 83) (a := 0) dX7_does_83 rfl ?_
        exact z_sub (ks := [3, 2, 1, 0]) rfl Q
      · replace Q := Q.2 c
        refine z_aload_n (pc := 68) (n := 3) dX7_does_68 rfl rfl ?_
        refine z_iload_n (pc := 69) (n := 1) dX7_does_69 rfl rfl ?_
        refine z_iload_n (pc := 70) (n := 0) dX7_does_70 rfl rfl ?_
        refine z_aload_n (pc := 71) (n := 3) dX7_does_71 rfl rfl ?_
        refine z_getR (pc := 72) (q2 := 138) zo_Model rfl inT7 (i := 17) (by decide) wf_X7_45 rfl (fun _ _ => rfl) dX7_does_72 ?_
        refine z_iconst (pc := 75) (a := 4) dX7_does_75 rfl ?_
        refine z_iald (pc := 76) za_mtold (by decide) (by decide) dX7_does_76 ?_
        obtain ⟨d4, P5, e8, s9, Q⟩ := Q
        refine z_callV (pc := 77) (M := mX7_writeFault) (as := [_, _, _]) (st := []) s9 zo_Model rfl wi_X7_writeFault wm_X7_writeFault ⟨by omega, by decide⟩ wl_X7_129 dX7_does_77 rfl (Nat.le_of_ble_eq_true rfl) rfl ?_
        intro r6 h7 s9
        obtain ⟨x10, rfl, Q⟩ := Q _ _ s9
        refine z_goto (pc := 80) (tgt := 84) dX7_does_80 (by decide) ?_
        exact z_sub (ks := [3, 2, 1, 0]) rfl Q
    · replace Q := Q.2 c
      refine z_aload_n (pc := 54) (n := 3) dX7_does_54 rfl rfl ?_
      refine z_iload_n (pc := 55) (n := 1) dX7_does_55 rfl rfl ?_
      obtain ⟨d11, P12, e15, s16, Q⟩ := Q
      refine z_callV (pc := 56) (M := mX7_backFault) (as := [_]) (st := []) s16 zo_Model rfl wi_X7_backFault wm_X7_backFault ⟨by omega, by decide⟩ wl_X7_120 dX7_does_56 rfl (Nat.le_of_ble_eq_true rfl) rfl ?_
      intro r13 h14 s16
      obtain ⟨x17, rfl, Q⟩ := Q _ _ s16
      refine z_goto (pc := 59) (tgt := 84) dX7_does_59 (by decide) ?_
      exact z_sub (ks := [3, 2, 1, 0]) rfl Q
  · replace Q := Q.2 c
    refine z_aload_n (pc := 27) (n := 3) dX7_does_27 rfl rfl ?_
    refine z_iload_n (pc := 28) (n := 1) dX7_does_28 rfl rfl ?_
    refine z_aload_n (pc := 29) (n := 3) dX7_does_29 rfl rfl ?_
    refine z_getR (pc := 30) (q2 := 138) zo_Model rfl inT7 (i := 17) (by decide) wf_X7_45 rfl (fun _ _ => rfl) dX7_does_30 ?_
    refine z_iconst (pc := 33) (a := 2) dX7_does_33 rfl ?_
    refine z_iald (pc := 34) za_mtold (by decide) (by decide) dX7_does_34 ?_
    refine z_iload_n (pc := 35) (n := 0) dX7_does_35 rfl rfl ?_
    refine z_aload_n (pc := 36) (n := 3) dX7_does_36 rfl rfl ?_
    refine z_getR (pc := 37) (q2 := 138) zo_Model rfl inT7 (i := 17) (by decide) wf_X7_45 rfl (fun _ _ => rfl) dX7_does_37 ?_
    refine z_iconst (pc := 40) (a := 4) dX7_does_40 rfl ?_
    refine z_iald (pc := 41) za_mtold (by decide) (by decide) dX7_does_41 ?_
    obtain ⟨d18, P19, e22, s23, Q⟩ := Q
    refine z_callV (pc := 42) (M := mX7_lendFault) (as := [_, _, _, _]) (st := []) s23 zo_Model rfl wi_X7_lendFault wm_X7_lendFault ⟨by omega, by decide⟩ wl_X7_110 dX7_does_42 rfl (Nat.le_of_ble_eq_true rfl) rfl ?_
    intro r20 h21 s23
    obtain ⟨x24, rfl, Q⟩ := Q _ _ s23
    refine z_goto (pc := 45) (tgt := 84) dX7_does_45 (by decide) ?_
    exact z_sub (ks := [3, 2, 1, 0]) rfl Q
set_option maxHeartbeats 4000000 in
set_option maxRecDepth 100000 in
theorem k_X7_does_84 {d : Nat} {Post : Option zA → zH → Prop} {Γ : zCx} {h : zH} {v1 : Int} {v2 : Int} {v3 : Int} {w0 : Int}  (hd : 1 ≤ d) (Q :
 ((0 ≤ w0 →
  ((¬ v1 = 108 →
   ((¬ v1 = 98 →
    ((¬ v1 = 119 →
     ∃ (d1 : Nat) (P2 : Option zA → zH → Prop), d1 + 1 ≤ d ∧ zSp d1 mX7_gathers [zR 128, zI v2, zI v3] h P2 ∧ ∀ r3 h4, P2 r3 h4 →
     ∃ x7 : Int, r3 = some (zI x7) ∧
     Post (some (zI 0)) h4) ∧
    (v1 = 119 →
     ∃ (d8 : Nat) (P9 : Option zA → zH → Prop), d8 + 1 ≤ d ∧ zSp d8 mX7_writes [zR 128, zI v3, zI (h 138 4)] h P9 ∧ ∀ r10 h11, P9 r10 h11 →
     ∃ x14 : Int, r10 = some (zI x14) ∧
     Post (some (zI 0)) h11))) ∧
   (v1 = 98 →
    ∃ (d15 : Nat) (P16 : Option zA → zH → Prop), d15 + 1 ≤ d ∧ zSp d15 mX7_placeOf [zR 128, zI v2] h P16 ∧ ∀ r17 h18, P16 r17 h18 →
    ∃ x21 : Int, r17 = some (zI x21) ∧
    ∃ (d22 : Nat) (P23 : Option zA → zH → Prop), d22 + 1 ≤ d ∧ zSp d22 mX7_gives [zR 128, zI x21] h18 P23 ∧ ∀ r24 h25, P23 r24 h25 →
    ∃ x28 : Int, r24 = some (zI x28) ∧
    Post (some (zI 0)) h25))) ∧
  (v1 = 108 →
   ∃ (d29 : Nat) (P30 : Option zA → zH → Prop), d29 + 1 ≤ d ∧ zSp d29 mX7_lends [zR 128, zI v2, zI (h 138 2), zI v3, zI (h 138 4)] h P30 ∧ ∀ r31 h32, P30 r31 h32 →
   ∃ x35 : Int, r31 = some (zI x35) ∧
   Post (some (zI 0)) h32))) ∧
 (¬ 0 ≤ w0 →
  Post (some (zI w0)) h))) :
    zV RX7 cX7_does 6 (some .int) d Post Γ 84 [(0, zR 128), (1, zI v1), (2, zI v2), (3, zI v3)] [zI w0] h := by
  refine z_istore (pc := 84) (ls' := [(4, _), (0, _), (1, _), (2, _), (3, _)]) dX7_does_84 (by decide) rfl ?_
  refine z_iload (pc := 86) (n := 0) dX7_does_86 rfl ?_
  refine z_if_ge (pc := 88) (tgt := 94) dX7_does_88 (by decide) (fun c => ?_) (fun c => ?_)
  · replace Q := Q.1 c
    refine z_iload_n (pc := 94) (n := 2) dX7_does_94 rfl rfl ?_
    refine z_bipush (pc := 95) (a := 108) dX7_does_95 rfl ?_
    refine z_icmp_ne (pc := 97) (tgt := 121) dX7_does_97 (by decide) (fun c => ?_) (fun c => ?_)
    · replace Q := Q.1 c
      refine z_iload_n (pc := 121) (n := 2) dX7_does_121 rfl rfl ?_
      refine z_bipush (pc := 122) (a := 98) dX7_does_122 rfl ?_
      refine z_icmp_ne (pc := 124) (tgt := 139) dX7_does_124 (by decide) (fun c => ?_) (fun c => ?_)
      · replace Q := Q.1 c
        refine z_iload_n (pc := 139) (n := 2) dX7_does_139 rfl rfl ?_
        refine z_bipush (pc := 140) (a := 119) dX7_does_140 rfl ?_
        refine z_icmp_ne (pc := 142) (tgt := 159) dX7_does_142 (by decide) (fun c => ?_) (fun c => ?_)
        · replace Q := Q.1 c
          refine z_aload_n (pc := 159) (n := 1) dX7_does_159 rfl rfl ?_
          refine z_iload_n (pc := 160) (n := 3) dX7_does_160 rfl rfl ?_
          refine z_iload_n (pc := 161) (n := 4) dX7_does_161 rfl rfl ?_
          obtain ⟨d1, P2, e5, s6, Q⟩ := Q
          refine z_callV (pc := 162) (M := mX7_gathers) (as := [_, _]) (st := []) s6 zo_Model rfl wi_X7_gathers wm_X7_gathers ⟨by omega, by decide⟩ wl_X7_99 dX7_does_162 rfl (Nat.le_of_ble_eq_true rfl) rfl ?_
          intro r3 h4 s6
          obtain ⟨x7, rfl, Q⟩ := Q _ _ s6
          refine z_istore (pc := 165) (ls' := [(5, _), (4, _), (0, _), (1, _), (2, _), (3, _)]) dX7_does_165 (by decide) rfl ?_
          refine z_iconst (pc := 167) (a := 0) dX7_does_167 rfl ?_
          exact z_iret (pc := 168) rfl dX7_does_168 Q
        · replace Q := Q.2 c
          refine z_aload_n (pc := 145) (n := 1) dX7_does_145 rfl rfl ?_
          refine z_iload_n (pc := 146) (n := 4) dX7_does_146 rfl rfl ?_
          refine z_aload_n (pc := 147) (n := 1) dX7_does_147 rfl rfl ?_
          refine z_getR (pc := 148) (q2 := 138) zo_Model rfl inT7 (i := 17) (by decide) wf_X7_45 rfl (fun _ _ => rfl) dX7_does_148 ?_
          refine z_iconst (pc := 151) (a := 4) dX7_does_151 rfl ?_
          refine z_iald (pc := 152) za_mtold (by decide) (by decide) dX7_does_152 ?_
          obtain ⟨d8, P9, e12, s13, Q⟩ := Q
          refine z_callV (pc := 153) (M := mX7_writes) (as := [_, _]) (st := []) s13 zo_Model rfl wi_X7_writes wm_X7_writes ⟨by omega, by decide⟩ wl_X7_132 dX7_does_153 rfl (Nat.le_of_ble_eq_true rfl) rfl ?_
          intro r10 h11 s13
          obtain ⟨x14, rfl, Q⟩ := Q _ _ s13
          refine z_goto (pc := 156) (tgt := 165) dX7_does_156 (by decide) ?_
          refine z_istore (pc := 165) (ls' := [(5, _), (4, _), (0, _), (1, _), (2, _), (3, _)]) dX7_does_165 (by decide) rfl ?_
          refine z_iconst (pc := 167) (a := 0) dX7_does_167 rfl ?_
          exact z_iret (pc := 168) rfl dX7_does_168 Q
      · replace Q := Q.2 c
        refine z_aload_n (pc := 127) (n := 1) dX7_does_127 rfl rfl ?_
        refine z_aload_n (pc := 128) (n := 1) dX7_does_128 rfl rfl ?_
        refine z_iload_n (pc := 129) (n := 3) dX7_does_129 rfl rfl ?_
        obtain ⟨d15, P16, e19, s20, Q⟩ := Q
        refine z_callV (pc := 130) (M := mX7_placeOf) (as := [_]) (st := [_]) s20 zo_Model rfl wi_X7_placeOf wm_X7_placeOf ⟨by omega, by decide⟩ wl_X7_82 dX7_does_130 rfl (Nat.le_of_ble_eq_true rfl) rfl ?_
        intro r17 h18 s20
        obtain ⟨x21, rfl, Q⟩ := Q _ _ s20
        obtain ⟨d22, P23, e26, s27, Q⟩ := Q
        refine z_callV (pc := 133) (M := mX7_gives) (as := [_]) (st := []) s27 zo_Model rfl wi_X7_gives wm_X7_gives ⟨by omega, by decide⟩ wl_X7_96 dX7_does_133 rfl (Nat.le_of_ble_eq_true rfl) rfl ?_
        intro r24 h25 s27
        obtain ⟨x28, rfl, Q⟩ := Q _ _ s27
        refine z_goto (pc := 136) (tgt := 165) dX7_does_136 (by decide) ?_
        refine z_istore (pc := 165) (ls' := [(5, _), (4, _), (0, _), (1, _), (2, _), (3, _)]) dX7_does_165 (by decide) rfl ?_
        refine z_iconst (pc := 167) (a := 0) dX7_does_167 rfl ?_
        exact z_iret (pc := 168) rfl dX7_does_168 Q
    · replace Q := Q.2 c
      refine z_aload_n (pc := 100) (n := 1) dX7_does_100 rfl rfl ?_
      refine z_iload_n (pc := 101) (n := 3) dX7_does_101 rfl rfl ?_
      refine z_aload_n (pc := 102) (n := 1) dX7_does_102 rfl rfl ?_
      refine z_getR (pc := 103) (q2 := 138) zo_Model rfl inT7 (i := 17) (by decide) wf_X7_45 rfl (fun _ _ => rfl) dX7_does_103 ?_
      refine z_iconst (pc := 106) (a := 2) dX7_does_106 rfl ?_
      refine z_iald (pc := 107) za_mtold (by decide) (by decide) dX7_does_107 ?_
      refine z_iload_n (pc := 108) (n := 4) dX7_does_108 rfl rfl ?_
      refine z_aload_n (pc := 109) (n := 1) dX7_does_109 rfl rfl ?_
      refine z_getR (pc := 110) (q2 := 138) zo_Model rfl inT7 (i := 17) (by decide) wf_X7_45 rfl (fun _ _ => rfl) dX7_does_110 ?_
      refine z_iconst (pc := 113) (a := 4) dX7_does_113 rfl ?_
      refine z_iald (pc := 114) za_mtold (by decide) (by decide) dX7_does_114 ?_
      obtain ⟨d29, P30, e33, s34, Q⟩ := Q
      refine z_callV (pc := 115) (M := mX7_lends) (as := [_, _, _, _]) (st := []) s34 zo_Model rfl wi_X7_lends wm_X7_lends ⟨by omega, by decide⟩ wl_X7_117 dX7_does_115 rfl (Nat.le_of_ble_eq_true rfl) rfl ?_
      intro r31 h32 s34
      obtain ⟨x35, rfl, Q⟩ := Q _ _ s34
      refine z_goto (pc := 118) (tgt := 165) dX7_does_118 (by decide) ?_
      refine z_istore (pc := 165) (ls' := [(5, _), (4, _), (0, _), (1, _), (2, _), (3, _)]) dX7_does_165 (by decide) rfl ?_
      refine z_iconst (pc := 167) (a := 0) dX7_does_167 rfl ?_
      exact z_iret (pc := 168) rfl dX7_does_168 Q
  · replace Q := Q.2 c
    refine z_iload (pc := 91) (n := 0) dX7_does_91 rfl ?_
    exact z_iret (pc := 93) rfl dX7_does_93 Q
set_option maxHeartbeats 4000000 in
set_option maxRecDepth 100000 in
theorem k_X7_dropClaim_0 {d : Nat} {Post : Option zA → zH → Prop} {Γ : zCx} {h : zH} {a1 : Int} {a2 : Int}  (hd : 1 ≤ d) (Q :
 0 ≤ (zwr (108 + a1)) ∧ (zwr (108 + a1)) < 336 ∧
 0 ≤ (zwr (108 + a1)) ∧ (zwr (108 + a1)) < 336 ∧
 ∀ h5 : zH, h5 = zu h 129 (zwr (108 + a1)).toNat (zwr ((h 129 (zwr (108 + a1)).toNat) - 1)) →
 zV RX7 cX7_dropClaim 4 none d Post Γ 15 [(0, zR 128), (1, zI a1), (2, zI a2), (3, zI a2)] [] h5) :
    zV RX7 cX7_dropClaim 4 none d Post Γ 0 [(0, zR 128), (1, zI a1), (2, zI a2)] [] h := by
  refine z_aload_n (pc := 0) (n := 0) dX7_dropClaim_0 rfl rfl ?_
  refine z_getR (pc := 1) (q2 := 129) zo_Model rfl inT7 (i := 0) (by decide) wf_X7_7 rfl (fun _ _ => rfl) dX7_dropClaim_1 ?_
  refine z_bipush (pc := 4) (a := 108) dX7_dropClaim_4 rfl ?_
  refine z_iload_n (pc := 6) (n := 1) dX7_dropClaim_6 rfl rfl ?_
  refine z_iadd (pc := 7) dX7_dropClaim_7 ?_
  refine z_dup2 (pc := 8) dX7_dropClaim_8 rfl rfl ?_
  obtain ⟨c1, c2, Q⟩ := Q
  refine z_iald (pc := 9) za_ms c1 c2 dX7_dropClaim_9 ?_
  refine z_iconst (pc := 10) (a := 1) dX7_dropClaim_10 rfl ?_
  refine z_isub (pc := 11) dX7_dropClaim_11 ?_
  obtain ⟨c3, c4, Q⟩ := Q
  refine z_iast (pc := 12) za_ms c3 c4 dX7_dropClaim_12 ?_
  refine z_heap (fun h5 eh5 => ?_)
  replace Q := Q h5 eh5
  refine z_iload_n (pc := 13) (n := 2) dX7_dropClaim_13 rfl rfl ?_
  refine z_istore_n (pc := 14) (ls' := [(3, _), (0, _), (1, _), (2, _)]) dX7_dropClaim_14 rfl (by decide) rfl ?_
  exact z_sub (ks := [1, 2, 3, 0]) rfl Q
set_option maxHeartbeats 4000000 in
set_option maxRecDepth 100000 in
theorem k_X7_dropClaim_15 {d : Nat} {Post : Option zA → zH → Prop} {Γ : zCx} {h : zH} {v1 : Int} {v2 : Int} {v3 : Int}  (hd : 1 ≤ d) (Q :
 0 ≤ (zwr (108 + v1)) ∧ (zwr (108 + v1)) < 336 ∧
 (((h 129 (zwr (108 + v1)).toNat) ≤ v3 →
  Post none h) ∧
 (¬ (h 129 (zwr (108 + v1)).toNat) ≤ v3 →
  0 ≤ (zwr ((zwr ((zwr (72 + (zwr (6 * v1)))) + v3)) + 1)) ∧ (zwr ((zwr ((zwr (72 + (zwr (6 * v1)))) + v3)) + 1)) < 336 ∧
  0 ≤ (zwr ((zwr (72 + (zwr (6 * v1)))) + v3)) ∧ (zwr ((zwr (72 + (zwr (6 * v1)))) + v3)) < 336 ∧
  ∀ h7 : zH, h7 = zu h 129 (zwr ((zwr (72 + (zwr (6 * v1)))) + v3)).toNat (h 129 (zwr ((zwr ((zwr (72 + (zwr (6 * v1)))) + v3)) + 1)).toNat) →
  ∀ x8 : Int, x8 = zwr (v3 + 1) →
  zV RX7 cX7_dropClaim 4 none d Post Γ 15 [(0, zR 128), (1, zI v1), (2, zI v2), (3, zI x8)] [] h7))) :
    zV RX7 cX7_dropClaim 4 none d Post Γ 15 [(0, zR 128), (1, zI v1), (2, zI v2), (3, zI v3)] [] h := by
  refine z_iload_n (pc := 15) (n := 3) dX7_dropClaim_15 rfl rfl ?_
  refine z_aload_n (pc := 16) (n := 0) dX7_dropClaim_16 rfl rfl ?_
  refine z_getR (pc := 17) (q2 := 129) zo_Model rfl inT7 (i := 0) (by decide) wf_X7_7 rfl (fun _ _ => rfl) dX7_dropClaim_17 ?_
  refine z_bipush (pc := 20) (a := 108) dX7_dropClaim_20 rfl ?_
  refine z_iload_n (pc := 22) (n := 1) dX7_dropClaim_22 rfl rfl ?_
  refine z_iadd (pc := 23) dX7_dropClaim_23 ?_
  obtain ⟨c1, c2, Q⟩ := Q
  refine z_iald (pc := 24) za_ms c1 c2 dX7_dropClaim_24 ?_
  refine z_icmp_ge (pc := 25) (tgt := 64) dX7_dropClaim_25 (by decide) (fun c => ?_) (fun c => ?_)
  · replace Q := Q.1 c
    exact z_vret (pc := 64) rfl dX7_dropClaim_64 Q
  · replace Q := Q.2 c
    refine z_aload_n (pc := 28) (n := 0) dX7_dropClaim_28 rfl rfl ?_
    refine z_getR (pc := 29) (q2 := 129) zo_Model rfl inT7 (i := 0) (by decide) wf_X7_7 rfl (fun _ _ => rfl) dX7_dropClaim_29 ?_
    refine z_bipush (pc := 32) (a := 72) dX7_dropClaim_32 rfl ?_
    refine z_bipush (pc := 34) (a := 6) dX7_dropClaim_34 rfl ?_
    refine z_iload_n (pc := 36) (n := 1) dX7_dropClaim_36 rfl rfl ?_
    refine z_imul (pc := 37) dX7_dropClaim_37 ?_
    refine z_iadd (pc := 38) dX7_dropClaim_38 ?_
    refine z_iload_n (pc := 39) (n := 3) dX7_dropClaim_39 rfl rfl ?_
    refine z_iadd (pc := 40) dX7_dropClaim_40 ?_
    refine z_aload_n (pc := 41) (n := 0) dX7_dropClaim_41 rfl rfl ?_
    refine z_getR (pc := 42) (q2 := 129) zo_Model rfl inT7 (i := 0) (by decide) wf_X7_7 rfl (fun _ _ => rfl) dX7_dropClaim_42 ?_
    refine z_bipush (pc := 45) (a := 72) dX7_dropClaim_45 rfl ?_
    refine z_bipush (pc := 47) (a := 6) dX7_dropClaim_47 rfl ?_
    refine z_iload_n (pc := 49) (n := 1) dX7_dropClaim_49 rfl rfl ?_
    refine z_imul (pc := 50) dX7_dropClaim_50 ?_
    refine z_iadd (pc := 51) dX7_dropClaim_51 ?_
    refine z_iload_n (pc := 52) (n := 3) dX7_dropClaim_52 rfl rfl ?_
    refine z_iadd (pc := 53) dX7_dropClaim_53 ?_
    refine z_iconst (pc := 54) (a := 1) dX7_dropClaim_54 rfl ?_
    refine z_iadd (pc := 55) dX7_dropClaim_55 ?_
    obtain ⟨c3, c4, Q⟩ := Q
    refine z_iald (pc := 56) za_ms c3 c4 dX7_dropClaim_56 ?_
    obtain ⟨c5, c6, Q⟩ := Q
    refine z_iast (pc := 57) za_ms c5 c6 dX7_dropClaim_57 ?_
    refine z_heap (fun h7 eh7 => ?_)
    replace Q := Q h7 eh7
    refine z_iincg (pc := 58) (n := 3) (lf := fun y => [(3, zI y), (0, _), (1, _), (2, _)]) dX7_dropClaim_58 rfl (by decide) (fun _ => rfl) (fun x8 ex8 => ?_)
    replace Q := Q x8 ex8
    refine z_goto (pc := 61) (tgt := 15) dX7_dropClaim_61 (by decide) ?_
    exact z_sub (ks := [1, 2, 3, 0]) rfl Q
set_option maxHeartbeats 4000000 in
set_option maxRecDepth 100000 in
theorem k_X7_enter_0 {d : Nat} {Post : Option zA → zH → Prop} {Γ : zCx} {h : zH} {a1 : Int}  (hd : 1 ≤ d) (Q :
 0 ≤ (h 128 14) ∧ (h 128 14) < 7 ∧
 ∀ h3 : zH, h3 = zu h 135 (h 128 14).toNat a1 →
 0 ≤ (h3 128 14) ∧ (h3 128 14) < 7 ∧
 ∀ h6 : zH, h6 = zu h3 136 (h3 128 14).toNat 1000 →
 0 ≤ (h6 128 14) ∧ (h6 128 14) < 7 ∧
 ∀ h9 : zH, h9 = zu h6 137 (h6 128 14).toNat 0 →
 ∀ h10 : zH, h10 = zu h9 128 14 (zwr ((h9 128 14) + 1)) →
 Post none h10) :
    zV RX7 cX7_enter 2 none d Post Γ 0 [(0, zR 128), (1, zI a1)] [] h := by
  refine z_aload_n (pc := 0) (n := 0) dX7_enter_0 rfl rfl ?_
  refine z_getR (pc := 1) (q2 := 135) zo_Model rfl inT7 (i := 11) (by decide) wf_X7_35 rfl (fun _ _ => rfl) dX7_enter_1 ?_
  refine z_aload_n (pc := 4) (n := 0) dX7_enter_4 rfl rfl ?_
  refine z_getI (pc := 5) zo_Model rfl inT7 (i := 14) (by decide) wf_X7_75 rfl (fun _ _ => rfl) dX7_enter_5 ?_
  refine z_iload_n (pc := 8) (n := 1) dX7_enter_8 rfl rfl ?_
  obtain ⟨c1, c2, Q⟩ := Q
  refine z_iast (pc := 9) za_magents c1 c2 dX7_enter_9 ?_
  refine z_heap (fun h3 eh3 => ?_)
  replace Q := Q h3 eh3
  refine z_aload_n (pc := 10) (n := 0) dX7_enter_10 rfl rfl ?_
  refine z_getR (pc := 11) (q2 := 136) zo_Model rfl inT7 (i := 12) (by decide) wf_X7_38 rfl (fun _ _ => rfl) dX7_enter_11 ?_
  refine z_aload_n (pc := 14) (n := 0) dX7_enter_14 rfl rfl ?_
  refine z_getI (pc := 15) zo_Model rfl inT7 (i := 14) (by decide) wf_X7_75 rfl (fun _ _ => rfl) dX7_enter_15 ?_
  refine z_sipush (pc := 18) (a := 1000) dX7_enter_18 rfl ?_
  obtain ⟨c4, c5, Q⟩ := Q
  refine z_iast (pc := 21) za_mats c4 c5 dX7_enter_21 ?_
  refine z_heap (fun h6 eh6 => ?_)
  replace Q := Q h6 eh6
  refine z_aload_n (pc := 22) (n := 0) dX7_enter_22 rfl rfl ?_
  refine z_getR (pc := 23) (q2 := 137) zo_Model rfl inT7 (i := 13) (by decide) wf_X7_41 rfl (fun _ _ => rfl) dX7_enter_23 ?_
  refine z_aload_n (pc := 26) (n := 0) dX7_enter_26 rfl rfl ?_
  refine z_getI (pc := 27) zo_Model rfl inT7 (i := 14) (by decide) wf_X7_75 rfl (fun _ _ => rfl) dX7_enter_27 ?_
  refine z_iconst (pc := 30) (a := 0) dX7_enter_30 rfl ?_
  obtain ⟨c7, c8, Q⟩ := Q
  refine z_zast (pc := 31) za_mwaits c7 c8 (by decide) dX7_enter_31 ?_
  refine z_heap (fun h9 eh9 => ?_)
  replace Q := Q h9 eh9
  refine z_aload_n (pc := 32) (n := 0) dX7_enter_32 rfl rfl ?_
  refine z_dup (pc := 33) dX7_enter_33 rfl ?_
  refine z_getI (pc := 34) zo_Model rfl inT7 (i := 14) (by decide) wf_X7_75 rfl (fun _ _ => rfl) dX7_enter_34 ?_
  refine z_iconst (pc := 37) (a := 1) dX7_enter_37 rfl ?_
  refine z_iadd (pc := 38) dX7_enter_38 ?_
  refine z_putI (pc := 39) zo_Model rfl inT7 (i := 14) (by decide) wf_X7_75 rfl tyX7 tyX7_ok nmX7 rfl (fun _ _ => Nat.le_of_ble_eq_true rfl) (fun _ _ _ => rfl) rfl dX7_enter_39 ?_
  refine z_heap (fun h10 eh10 => ?_)
  replace Q := Q h10 eh10
  exact z_vret (pc := 42) rfl dX7_enter_42 Q
set_option maxHeartbeats 4000000 in
set_option maxRecDepth 100000 in
theorem k_X7_gather_0 {d : Nat} {Post : Option zA → zH → Prop} {Γ : zCx} {h : zH} {a1 : Int} {a2 : Int}  (hd : 4 ≤ d) (Q :
 (((0 ≤ a1 ∧ a1 ≤ 5) ∧ 0 ≤ a2 ∧ a2 ≤ 5 →
  ∃ (d1 : Nat) (P2 : Option zA → zH → Prop), d1 + 1 ≤ d ∧ zSp d1 mX7_putAside [zR 128] h P2 ∧ ∀ r3 h4, P2 r3 h4 →
  r3 = none ∧
  ∃ (d7 : Nat) (P8 : Option zA → zH → Prop), d7 + 1 ≤ d ∧ zSp d7 mX7_gathers [zR 128, zI a1, zI a2] h4 P8 ∧ ∀ r9 h10, P8 r9 h10 →
  ∃ x13 : Int, r9 = some (zI x13) ∧
  ∃ (d14 : Nat) (P15 : Option zA → zH → Prop), d14 + 1 ≤ d ∧ zSp d14 mX7_putBack [zR 128] h10 P15 ∧ ∀ r16 h17, P15 r16 h17 →
  r16 = none ∧
  ((¬ x13 = 0 →
   ∃ (d20 : Nat) (P21 : Option zA → zH → Prop), d20 + 1 ≤ d ∧ zSp d20 mX7_know [zR 128] h17 P21 ∧ ∀ r22 h23, P21 r22 h23 →
   r22 = none ∧
   ∃ (d26 : Nat) (P27 : Option zA → zH → Prop), d26 + 1 ≤ d ∧ zSp d26 mX7_gathers [zR 128, zI a1, zI a2] h23 P27 ∧ ∀ r28 h29, P27 r28 h29 →
   ∃ x32 : Int, r28 = some (zI x32) ∧
   (0 ≤ a1 ∧ a1 ≤ 5) ∧
   (0 ≤ a2 ∧ a2 ≤ 5) ∧
   0 ≤ (6 * a2 + a1) ∧ (6 * a2 + a1) < 336 ∧
   Post (some (zI (h29 129 (6 * a2 + a1).toNat))) h29) ∧
  (x13 = 0 →
   Post (some (zI (-5))) h17))) ∧
 (¬ ((0 ≤ a1 ∧ a1 ≤ 5) ∧ 0 ≤ a2 ∧ a2 ≤ 5) →
  Post (some (zI (-1))) h))) :
    zV RX7 cX7_gather 4 (some .int) d Post Γ 0 [(0, zR 128), (1, zI a1), (2, zI a2)] [] h := by
  refine z_iload_n (pc := 0) (n := 1) dX7_gather_0 rfl rfl ?_
  refine z_iload_n (pc := 1) (n := 2) dX7_gather_1 rfl rfl ?_
  refine z_callS (pc := 2) (M := mX7_areBoth) (as := [_, _]) (st := []) c_X7_areBoth wt_X7_areBoth wm_X7_areBoth ⟨by omega, by decide⟩ wl_X7_106 dX7_gather_2 rfl (Nat.le_of_ble_eq_true rfl) rfl ?_
  rintro _ _ ⟨rfl, rfl⟩
  refine z_ifb_ne (pc := 5) (tgt := 10) dX7_gather_5 (by decide) (fun c => ?_) (fun c => ?_)
  · replace Q := Q.1 c
    refine z_aload_n (pc := 10) (n := 0) dX7_gather_10 rfl rfl ?_
    obtain ⟨d1, P2, e5, s6, Q⟩ := Q
    refine z_callV (pc := 11) (M := mX7_putAside) (as := []) (st := []) s6 zo_Model rfl wi_X7_putAside wm_X7_putAside ⟨by omega, by decide⟩ wl_X7_123 dX7_gather_11 rfl (Nat.le_of_ble_eq_true rfl) rfl ?_
    intro r3 h4 s6
    obtain ⟨rfl, Q⟩ := Q _ _ s6
    refine z_aload_n (pc := 14) (n := 0) dX7_gather_14 rfl rfl ?_
    refine z_iload_n (pc := 15) (n := 1) dX7_gather_15 rfl rfl ?_
    refine z_iload_n (pc := 16) (n := 2) dX7_gather_16 rfl rfl ?_
    obtain ⟨d7, P8, e11, s12, Q⟩ := Q
    refine z_callV (pc := 17) (M := mX7_gathers) (as := [_, _]) (st := []) s12 zo_Model rfl wi_X7_gathers wm_X7_gathers ⟨by omega, by decide⟩ wl_X7_99 dX7_gather_17 rfl (Nat.le_of_ble_eq_true rfl) rfl ?_
    intro r9 h10 s12
    obtain ⟨x13, rfl, Q⟩ := Q _ _ s12
    refine z_istore_n (pc := 20) (ls' := [(3, _), (0, _), (1, _), (2, _)]) dX7_gather_20 rfl (by decide) rfl ?_
    refine z_aload_n (pc := 21) (n := 1) dX7_gather_21 rfl rfl ?_
    obtain ⟨d14, P15, e18, s19, Q⟩ := Q
    refine z_callV (pc := 22) (M := mX7_putBack) (as := []) (st := []) s19 zo_Model rfl wi_X7_putBack wm_X7_putBack ⟨by omega, by decide⟩ wl_X7_126 dX7_gather_22 rfl (Nat.le_of_ble_eq_true rfl) rfl ?_
    intro r16 h17 s19
    obtain ⟨rfl, Q⟩ := Q _ _ s19
    refine z_iload_n (pc := 25) (n := 0) dX7_gather_25 rfl rfl ?_
    refine z_if_ne (pc := 26) (tgt := 32) dX7_gather_26 (by decide) (fun c => ?_) (fun c => ?_)
    · replace Q := Q.1 c
      refine z_aload_n (pc := 32) (n := 1) dX7_gather_32 rfl rfl ?_
      obtain ⟨d20, P21, e24, s25, Q⟩ := Q
      refine z_callV (pc := 33) (M := mX7_know) (as := []) (st := []) s25 zo_Model rfl wi_X7_know wm_X7_know ⟨by omega, by decide⟩ wl_X7_114 dX7_gather_33 rfl (Nat.le_of_ble_eq_true rfl) rfl ?_
      intro r22 h23 s25
      obtain ⟨rfl, Q⟩ := Q _ _ s25
      refine z_aload_n (pc := 36) (n := 1) dX7_gather_36 rfl rfl ?_
      refine z_iload_n (pc := 37) (n := 2) dX7_gather_37 rfl rfl ?_
      refine z_iload_n (pc := 38) (n := 3) dX7_gather_38 rfl rfl ?_
      obtain ⟨d26, P27, e30, s31, Q⟩ := Q
      refine z_callV (pc := 39) (M := mX7_gathers) (as := [_, _]) (st := []) s31 zo_Model rfl wi_X7_gathers wm_X7_gathers ⟨by omega, by decide⟩ wl_X7_99 dX7_gather_39 rfl (Nat.le_of_ble_eq_true rfl) rfl ?_
      intro r28 h29 s31
      obtain ⟨x32, rfl, Q⟩ := Q _ _ s31
      refine z_istore_n (pc := 42) (ls' := [(3, _), (0, _), (1, _), (2, _)]) dX7_gather_42 rfl (by decide) rfl ?_
      refine z_aload_n (pc := 43) (n := 1) dX7_gather_43 rfl rfl ?_
      refine z_getR (pc := 44) (q2 := 129) zo_Model rfl inT7 (i := 0) (by decide) wf_X7_7 rfl (fun _ _ => rfl) dX7_gather_44 ?_
      refine z_iload_n (pc := 47) (n := 2) dX7_gather_47 rfl rfl ?_
      refine z_iload_n (pc := 48) (n := 3) dX7_gather_48 rfl rfl ?_
      obtain ⟨c33, Q⟩ := Q
      obtain ⟨c34, Q⟩ := Q
      refine z_callS (pc := 49) (M := mX7_held) (as := [_, _]) (st := [_]) (c_X7_held c33 c34) wt_X7_held wm_X7_held ⟨by omega, by decide⟩ wl_X7_51 dX7_gather_49 rfl (Nat.le_of_ble_eq_true rfl) rfl ?_
      rintro _ _ ⟨rfl, rfl⟩
      obtain ⟨c35, c36, Q⟩ := Q
      refine z_iald (pc := 52) za_ms c35 c36 dX7_gather_52 ?_
      exact z_iret (pc := 53) rfl dX7_gather_53 Q
    · replace Q := Q.2 c
      refine z_bipush (pc := 29) (a := -5) dX7_gather_29 rfl ?_
      exact z_iret (pc := 31) rfl dX7_gather_31 Q
  · replace Q := Q.2 c
    refine z_iconst (pc := 8) (a := -1) dX7_gather_8 rfl ?_
    exact z_iret (pc := 9) rfl dX7_gather_9 Q
set_option maxHeartbeats 4000000 in
set_option maxRecDepth 100000 in
theorem k_X7_gathers_0 {d : Nat} {Post : Option zA → zH → Prop} {Γ : zCx} {h : zH} {a1 : Int} {a2 : Int}  (hd : 1 ≤ d) (Q :
 ∀ x1 : Int, x1 = (h 129 135) →
 ∀ h2 : zH, h2 = zu h 128 14 0 →
 ∃ (d3 : Nat) (P4 : Option zA → zH → Prop), d3 + 1 ≤ d ∧ zSp d3 mX7_enter [zR 128, zI a1] h2 P4 ∧ ∀ r5 h6, P4 r5 h6 →
 r5 = none ∧
 zV RX7 cX7_gathers 9 (some .int) d Post Γ 19 [(0, zR 128), (1, zI a1), (2, zI a2), (3, zI x1)] [] h6) :
    zV RX7 cX7_gathers 9 (some .int) d Post Γ 0 [(0, zR 128), (1, zI a1), (2, zI a2)] [] h := by
  refine z_aload_n (pc := 0) (n := 0) dX7_gathers_0 rfl rfl ?_
  refine z_getR (pc := 1) (q2 := 129) zo_Model rfl inT7 (i := 0) (by decide) wf_X7_7 rfl (fun _ _ => rfl) dX7_gathers_1 ?_
  refine z_sipush (pc := 4) (a := 135) dX7_gathers_4 rfl ?_
  refine z_iald (pc := 7) za_ms (by decide) (by decide) dX7_gathers_7 ?_
  refine z_top (fun x1 ex1 => ?_)
  replace Q := Q x1 ex1
  refine z_istore_n (pc := 8) (ls' := [(3, _), (0, _), (1, _), (2, _)]) dX7_gathers_8 rfl (by decide) rfl ?_
  refine z_aload_n (pc := 9) (n := 1) dX7_gathers_9 rfl rfl ?_
  refine z_iconst (pc := 10) (a := 0) dX7_gathers_10 rfl ?_
  refine z_putI (pc := 11) zo_Model rfl inT7 (i := 14) (by decide) wf_X7_75 rfl tyX7 tyX7_ok nmX7 rfl (fun _ _ => Nat.le_of_ble_eq_true rfl) (fun _ _ _ => rfl) rfl dX7_gathers_11 ?_
  refine z_heap (fun h2 eh2 => ?_)
  replace Q := Q h2 eh2
  refine z_aload_n (pc := 14) (n := 1) dX7_gathers_14 rfl rfl ?_
  refine z_iload_n (pc := 15) (n := 2) dX7_gathers_15 rfl rfl ?_
  obtain ⟨d3, P4, e7, s8, Q⟩ := Q
  refine z_callV (pc := 16) (M := mX7_enter) (as := [_]) (st := []) s8 zo_Model rfl wi_X7_enter wm_X7_enter ⟨by omega, by decide⟩ wl_X7_78 dX7_gathers_16 rfl (Nat.le_of_ble_eq_true rfl) rfl ?_
  intro r5 h6 s8
  obtain ⟨rfl, Q⟩ := Q _ _ s8
  exact z_sub (ks := [1, 2, 3, 0]) rfl Q
set_option maxHeartbeats 4000000 in
set_option maxRecDepth 100000 in
theorem k_X7_gathers_19 {d : Nat} {Post : Option zA → zH → Prop} {Γ : zCx} {h : zH} {v1 : Int} {v2 : Int} {v3 : Int}  (hd : 1 ≤ d) (Q :
 (((h 128 14) ≤ 0 →
  Post (some (zI (zwr ((h 129 135) - v3)))) h) ∧
 (¬ (h 128 14) ≤ 0 →
  ∀ x1 : Int, x1 = (zwr ((h 128 14) - 1)) →
  0 ≤ x1 ∧ x1 < 7 ∧
  (((h 137 x1.toNat) = 0 →
   0 ≤ x1 ∧ x1 < 7 ∧
   0 ≤ x1 ∧ x1 < 7 ∧
   ∃ (d8 : Nat) (P9 : Option zA → zH → Prop), d8 + 1 ≤ d ∧ zSp d8 mX7_latest [zR 128, zI (h 135 x1.toNat), zI v2, zI (h 136 x1.toNat)] h P9 ∧ ∀ r10 h11, P9 r10 h11 →
   ∃ x14 : Int, r10 = some (zI x14) ∧
   zV RX7 cX7_gathers 9 (some .int) d Post Γ 77 [(0, zR 128), (1, zI v1), (2, zI v2), (3, zI v3), (4, zI x1)] [zI x14] h11) ∧
  (¬ (h 137 x1.toNat) = 0 →
   0 ≤ x1 ∧ x1 < 7 ∧
   ∃ (d17 : Nat) (P18 : Option zA → zH → Prop), d17 + 1 ≤ d ∧ zSp d17 mX7_placeOf [zR 128, zI (h 136 x1.toNat)] h P18 ∧ ∀ r19 h20, P18 r19 h20 →
   ∃ x23 : Int, r19 = some (zI x23) ∧
   zV RX7 cX7_gathers 9 (some .int) d Post Γ 77 [(0, zR 128), (1, zI v1), (2, zI v2), (3, zI v3), (4, zI x1)] [zI x23] h20))))) :
    zV RX7 cX7_gathers 9 (some .int) d Post Γ 19 [(0, zR 128), (1, zI v1), (2, zI v2), (3, zI v3)] [] h := by
  refine z_aload_n (pc := 19) (n := 0) dX7_gathers_19 rfl rfl ?_
  refine z_getI (pc := 20) zo_Model rfl inT7 (i := 14) (by decide) wf_X7_75 rfl (fun _ _ => rfl) dX7_gathers_20 ?_
  refine z_if_le (pc := 23) (tgt := 224) dX7_gathers_23 (by decide) (fun c => ?_) (fun c => ?_)
  · replace Q := Q.1 c
    refine z_aload_n (pc := 224) (n := 0) dX7_gathers_224 rfl rfl ?_
    refine z_getR (pc := 225) (q2 := 129) zo_Model rfl inT7 (i := 0) (by decide) wf_X7_7 rfl (fun _ _ => rfl) dX7_gathers_225 ?_
    refine z_sipush (pc := 228) (a := 135) dX7_gathers_228 rfl ?_
    refine z_iald (pc := 231) za_ms (by decide) (by decide) dX7_gathers_231 ?_
    refine z_iload_n (pc := 232) (n := 3) dX7_gathers_232 rfl rfl ?_
    refine z_isub (pc := 233) dX7_gathers_233 ?_
    exact z_iret (pc := 234) rfl dX7_gathers_234 Q
  · replace Q := Q.2 c
    refine z_aload_n (pc := 26) (n := 0) dX7_gathers_26 rfl rfl ?_
    refine z_getI (pc := 27) zo_Model rfl inT7 (i := 14) (by decide) wf_X7_75 rfl (fun _ _ => rfl) dX7_gathers_27 ?_
    refine z_iconst (pc := 30) (a := 1) dX7_gathers_30 rfl ?_
    refine z_isub (pc := 31) dX7_gathers_31 ?_
    refine z_top (fun x1 ex1 => ?_)
    replace Q := Q x1 ex1
    refine z_istore (pc := 32) (ls' := [(4, _), (0, _), (1, _), (2, _), (3, _)]) dX7_gathers_32 (by decide) rfl ?_
    refine z_aload_n (pc := 34) (n := 1) dX7_gathers_34 rfl rfl ?_
    refine z_getR (pc := 35) (q2 := 137) zo_Model rfl inT7 (i := 13) (by decide) wf_X7_41 rfl (fun _ _ => rfl) dX7_gathers_35 ?_
    refine z_iload (pc := 38) (n := 0) dX7_gathers_38 rfl ?_
    obtain ⟨c2, c3, Q⟩ := Q
    refine z_zald (pc := 40) za_mwaits c2 c3 dX7_gathers_40 ?_
    refine z_if_eq (pc := 41) (tgt := 58) dX7_gathers_41 (by decide) (fun c => ?_) (fun c => ?_)
    · replace Q := Q.1 c
      refine z_aload_n (pc := 58) (n := 1) dX7_gathers_58 rfl rfl ?_
      refine z_aload_n (pc := 59) (n := 1) dX7_gathers_59 rfl rfl ?_
      refine z_getR (pc := 60) (q2 := 135) zo_Model rfl inT7 (i := 11) (by decide) wf_X7_35 rfl (fun _ _ => rfl) dX7_gathers_60 ?_
      refine z_iload (pc := 63) (n := 0) dX7_gathers_63 rfl ?_
      obtain ⟨c4, c5, Q⟩ := Q
      refine z_iald (pc := 65) za_magents c4 c5 dX7_gathers_65 ?_
      refine z_iload_n (pc := 66) (n := 3) dX7_gathers_66 rfl rfl ?_
      refine z_aload_n (pc := 67) (n := 1) dX7_gathers_67 rfl rfl ?_
      refine z_getR (pc := 68) (q2 := 136) zo_Model rfl inT7 (i := 12) (by decide) wf_X7_38 rfl (fun _ _ => rfl) dX7_gathers_68 ?_
      refine z_iload (pc := 71) (n := 0) dX7_gathers_71 rfl ?_
      obtain ⟨c6, c7, Q⟩ := Q
      refine z_iald (pc := 73) za_mats c6 c7 dX7_gathers_73 ?_
      obtain ⟨d8, P9, e12, s13, Q⟩ := Q
      refine z_callV (pc := 74) (M := mX7_latest) (as := [_, _, _]) (st := []) s13 zo_Model rfl wi_X7_latest wm_X7_latest ⟨by omega, by decide⟩ wl_X7_86 dX7_gathers_74 rfl (Nat.le_of_ble_eq_true rfl) rfl ?_
      intro r10 h11 s13
      obtain ⟨x14, rfl, Q⟩ := Q _ _ s13
      exact z_sub (ks := [1, 2, 3, 4, 0]) rfl Q
    · replace Q := Q.2 c
      refine z_aload_n (pc := 44) (n := 1) dX7_gathers_44 rfl rfl ?_
      refine z_aload_n (pc := 45) (n := 1) dX7_gathers_45 rfl rfl ?_
      refine z_getR (pc := 46) (q2 := 136) zo_Model rfl inT7 (i := 12) (by decide) wf_X7_38 rfl (fun _ _ => rfl) dX7_gathers_46 ?_
      refine z_iload (pc := 49) (n := 0) dX7_gathers_49 rfl ?_
      obtain ⟨c15, c16, Q⟩ := Q
      refine z_iald (pc := 51) za_mats c15 c16 dX7_gathers_51 ?_
      obtain ⟨d17, P18, e21, s22, Q⟩ := Q
      refine z_callV (pc := 52) (M := mX7_placeOf) (as := [_]) (st := []) s22 zo_Model rfl wi_X7_placeOf wm_X7_placeOf ⟨by omega, by decide⟩ wl_X7_82 dX7_gathers_52 rfl (Nat.le_of_ble_eq_true rfl) rfl ?_
      intro r19 h20 s22
      obtain ⟨x23, rfl, Q⟩ := Q _ _ s22
      refine z_goto (pc := 55) (tgt := 77) dX7_gathers_55 (by decide) ?_
      exact z_sub (ks := [1, 2, 3, 4, 0]) rfl Q
set_option maxHeartbeats 4000000 in
set_option maxRecDepth 100000 in
theorem k_X7_gathers_77 {d : Nat} {Post : Option zA → zH → Prop} {Γ : zCx} {h : zH} {v1 : Int} {v2 : Int} {v3 : Int} {v4 : Int} {w0 : Int}  (hd : 2 ≤ d) (Q :
 ((¬ w0 = (-5) →
  (-1 ≤ w0 ∧ w0 ≤ 40) ∧
  0 ≤ (136 + 5 * w0 + 2) ∧ (136 + 5 * w0 + 2) < 336 ∧
  ∀ x4 : Int, x4 = (h 129 (136 + 5 * w0 + 2).toNat) →
  0 ≤ v4 ∧ v4 < 7 ∧
  ((¬ (h 137 v4.toNat) = 0 →
   zV RX7 cX7_gathers 9 (some .int) d Post Γ 160 [(0, zR 128), (1, zI v1), (2, zI v2), (3, zI v3), (4, zI v4), (5, zI w0), (6, zI x4)] [] h) ∧
  ((h 137 v4.toNat) = 0 →
   (0 ≤ x4 ∧ x4 ≤ 5) ∧
   (0 ≤ v2 ∧ v2 ≤ 5) ∧
   0 ≤ (6 * v2 + x4) ∧ (6 * v2 + x4) < 336 ∧
   (-1 ≤ w0 ∧ w0 ≤ 40) ∧
   0 ≤ (136 + 5 * w0 + 4) ∧ (136 + 5 * w0 + 4) < 336 ∧
   (((h 129 (136 + 5 * w0 + 4).toNat) ≤ (h 129 (6 * v2 + x4).toNat) →
    zV RX7 cX7_gathers 9 (some .int) d Post Γ 160 [(0, zR 128), (1, zI v1), (2, zI v2), (3, zI v3), (4, zI v4), (5, zI w0), (6, zI x4)] [] h) ∧
   (¬ (h 129 (136 + 5 * w0 + 4).toNat) ≤ (h 129 (6 * v2 + x4).toNat) →
    ∃ (d14 : Nat) (P15 : Option zA → zH → Prop), d14 + 1 ≤ d ∧ zSp d14 mX7_isGathering [zR 128, zI x4] h P15 ∧ ∀ r16 h17, P15 r16 h17 →
    ∃ x20 : Int, r16 = some (zI x20) ∧
    ((¬ x20 = 0 →
     zV RX7 cX7_gathers 9 (some .int) d Post Γ 160 [(0, zR 128), (1, zI v1), (2, zI v2), (3, zI v3), (4, zI v4), (5, zI w0), (6, zI x4)] [] h17) ∧
    (x20 = 0 →
     zV RX7 cX7_gathers 9 (some .int) d Post Γ 161 [(0, zR 128), (1, zI v1), (2, zI v2), (3, zI v3), (4, zI v4), (5, zI w0), (6, zI x4)] [zI 1] h17))))))) ∧
 (w0 = (-5) →
  ∀ h21 : zH, h21 = zu h 128 14 (zwr ((h 128 14) - 1)) →
  zV RX7 cX7_gathers 9 (some .int) d Post Γ 19 [(0, zR 128), (1, zI v1), (2, zI v2), (3, zI v3)] [] h21))) :
    zV RX7 cX7_gathers 9 (some .int) d Post Γ 77 [(0, zR 128), (1, zI v1), (2, zI v2), (3, zI v3), (4, zI v4)] [zI w0] h := by
  refine z_istore (pc := 77) (ls' := [(5, _), (0, _), (1, _), (2, _), (3, _), (4, _)]) dX7_gathers_77 (by decide) rfl ?_
  refine z_iload (pc := 79) (n := 0) dX7_gathers_79 rfl ?_
  refine z_bipush (pc := 81) (a := -5) dX7_gathers_81 rfl ?_
  refine z_icmp_ne (pc := 83) (tgt := 99) dX7_gathers_83 (by decide) (fun c => ?_) (fun c => ?_)
  · replace Q := Q.1 c
    refine z_aload_n (pc := 99) (n := 1) dX7_gathers_99 rfl rfl ?_
    refine z_getR (pc := 100) (q2 := 129) zo_Model rfl inT7 (i := 0) (by decide) wf_X7_7 rfl (fun _ _ => rfl) dX7_gathers_100 ?_
    refine z_iload (pc := 103) (n := 0) dX7_gathers_103 rfl ?_
    refine z_iconst (pc := 105) (a := 2) dX7_gathers_105 rfl ?_
    obtain ⟨c1, Q⟩ := Q
    refine z_callS (pc := 106) (M := mX7_of) (as := [_, _]) (st := [_]) (c_X7_of c1 (by decide)) wt_X7_of wm_X7_of ⟨by omega, by decide⟩ wl_X7_69 dX7_gathers_106 rfl (Nat.le_of_ble_eq_true rfl) rfl ?_
    rintro _ _ ⟨rfl, rfl⟩
    obtain ⟨c2, c3, Q⟩ := Q
    refine z_iald (pc := 109) za_ms c2 c3 dX7_gathers_109 ?_
    refine z_top (fun x4 ex4 => ?_)
    replace Q := Q x4 ex4
    refine z_istore (pc := 110) (ls' := [(6, _), (5, _), (0, _), (1, _), (2, _), (3, _), (4, _)]) dX7_gathers_110 (by decide) rfl ?_
    refine z_aload_n (pc := 112) (n := 2) dX7_gathers_112 rfl rfl ?_
    refine z_getR (pc := 113) (q2 := 137) zo_Model rfl inT7 (i := 13) (by decide) wf_X7_41 rfl (fun _ _ => rfl) dX7_gathers_113 ?_
    refine z_iload (pc := 116) (n := 6) dX7_gathers_116 rfl ?_
    obtain ⟨c5, c6, Q⟩ := Q
    refine z_zald (pc := 118) za_mwaits c5 c6 dX7_gathers_118 ?_
    refine z_if_ne (pc := 119) (tgt := 160) dX7_gathers_119 (by decide) (fun c => ?_) (fun c => ?_)
    · replace Q := Q.1 c
      exact z_sub (ks := [2, 3, 4, 5, 6, 1, 0]) rfl Q
    · replace Q := Q.2 c
      refine z_aload_n (pc := 122) (n := 2) dX7_gathers_122 rfl rfl ?_
      refine z_getR (pc := 123) (q2 := 129) zo_Model rfl inT7 (i := 0) (by decide) wf_X7_7 rfl (fun _ _ => rfl) dX7_gathers_123 ?_
      refine z_iload (pc := 126) (n := 0) dX7_gathers_126 rfl ?_
      refine z_iload_n (pc := 128) (n := 4) dX7_gathers_128 rfl rfl ?_
      obtain ⟨c7, Q⟩ := Q
      obtain ⟨c8, Q⟩ := Q
      refine z_callS (pc := 129) (M := mX7_held) (as := [_, _]) (st := [_]) (c_X7_held c7 c8) wt_X7_held wm_X7_held ⟨by omega, by decide⟩ wl_X7_51 dX7_gathers_129 rfl (Nat.le_of_ble_eq_true rfl) rfl ?_
      rintro _ _ ⟨rfl, rfl⟩
      obtain ⟨c9, c10, Q⟩ := Q
      refine z_iald (pc := 132) za_ms c9 c10 dX7_gathers_132 ?_
      refine z_aload_n (pc := 133) (n := 2) dX7_gathers_133 rfl rfl ?_
      refine z_getR (pc := 134) (q2 := 129) zo_Model rfl inT7 (i := 0) (by decide) wf_X7_7 rfl (fun _ _ => rfl) dX7_gathers_134 ?_
      refine z_iload (pc := 137) (n := 1) dX7_gathers_137 rfl ?_
      refine z_iconst (pc := 139) (a := 4) dX7_gathers_139 rfl ?_
      obtain ⟨c11, Q⟩ := Q
      refine z_callS (pc := 140) (M := mX7_of) (as := [_, _]) (st := [_, _]) (c_X7_of c11 (by decide)) wt_X7_of wm_X7_of ⟨by omega, by decide⟩ wl_X7_69 dX7_gathers_140 rfl (Nat.le_of_ble_eq_true rfl) rfl ?_
      rintro _ _ ⟨rfl, rfl⟩
      obtain ⟨c12, c13, Q⟩ := Q
      refine z_iald (pc := 143) za_ms c12 c13 dX7_gathers_143 ?_
      refine z_icmp_ge (pc := 144) (tgt := 160) dX7_gathers_144 (by decide) (fun c => ?_) (fun c => ?_)
      · replace Q := Q.1 c
        exact z_sub (ks := [2, 3, 4, 5, 6, 1, 0]) rfl Q
      · replace Q := Q.2 c
        refine z_aload_n (pc := 147) (n := 2) dX7_gathers_147 rfl rfl ?_
        refine z_iload (pc := 148) (n := 0) dX7_gathers_148 rfl ?_
        obtain ⟨d14, P15, e18, s19, Q⟩ := Q
        refine z_callV (pc := 150) (M := mX7_isGathering) (as := [_]) (st := []) s19 zo_Model rfl wi_X7_isGathering wm_X7_isGathering ⟨by omega, by decide⟩ wl_X7_90 dX7_gathers_150 rfl (Nat.le_of_ble_eq_true rfl) rfl ?_
        intro r16 h17 s19
        obtain ⟨x20, rfl, Q⟩ := Q _ _ s19
        refine z_if_ne (pc := 153) (tgt := 160) dX7_gathers_153 (by decide) (fun c => ?_) (fun c => ?_)
        · replace Q := Q.1 c
          exact z_sub (ks := [2, 3, 4, 5, 6, 1, 0]) rfl Q
        · replace Q := Q.2 c
          refine z_iconst (pc := 156) (a := 1) dX7_gathers_156 rfl ?_
          refine z_goto (pc := 157) (tgt := 161) dX7_gathers_157 (by decide) ?_
          exact z_sub (ks := [2, 3, 4, 5, 6, 1, 0]) rfl Q
  · replace Q := Q.2 c
    refine z_aload_n (pc := 86) (n := 1) dX7_gathers_86 rfl rfl ?_
    refine z_dup (pc := 87) dX7_gathers_87 rfl ?_
    refine z_getI (pc := 88) zo_Model rfl inT7 (i := 14) (by decide) wf_X7_75 rfl (fun _ _ => rfl) dX7_gathers_88 ?_
    refine z_iconst (pc := 91) (a := 1) dX7_gathers_91 rfl ?_
    refine z_isub (pc := 92) dX7_gathers_92 ?_
    refine z_putI (pc := 93) zo_Model rfl inT7 (i := 14) (by decide) wf_X7_75 rfl tyX7 tyX7_ok nmX7 rfl (fun _ _ => Nat.le_of_ble_eq_true rfl) (fun _ _ _ => rfl) rfl dX7_gathers_93 ?_
    refine z_heap (fun h21 eh21 => ?_)
    replace Q := Q h21 eh21
    refine z_goto (pc := 96) (tgt := 221) dX7_gathers_96 (by decide) ?_
    refine z_goto (pc := 221) (tgt := 19) dX7_gathers_221 (by decide) ?_
    exact z_sub (ks := [1, 2, 3, 4]) rfl Q
set_option maxHeartbeats 4000000 in
set_option maxRecDepth 100000 in
theorem k_X7_gathers_160 {d : Nat} {Post : Option zA → zH → Prop} {Γ : zCx} {h : zH} {v1 : Int} {v2 : Int} {v3 : Int} {v4 : Int} {v5 : Int} {v6 : Int}  (hd : 1 ≤ d) (Q :
 zV RX7 cX7_gathers 9 (some .int) d Post Γ 161 [(0, zR 128), (1, zI v1), (2, zI v2), (3, zI v3), (4, zI v4), (5, zI v5), (6, zI v6)] [zI 0] h) :
    zV RX7 cX7_gathers 9 (some .int) d Post Γ 160 [(0, zR 128), (1, zI v1), (2, zI v2), (3, zI v3), (4, zI v4), (5, zI v5), (6, zI v6)] [] h := by
  refine z_iconst (pc := 160) (a := 0) dX7_gathers_160 rfl ?_
  exact z_sub (ks := [0, 1, 2, 3, 4, 5, 6]) rfl Q
set_option maxHeartbeats 4000000 in
set_option maxRecDepth 100000 in
theorem k_X7_gathers_161 {d : Nat} {Post : Option zA → zH → Prop} {Γ : zCx} {h : zH} {v1 : Int} {v2 : Int} {v3 : Int} {v4 : Int} {v5 : Int} {v6 : Int} {w0 : Int}  (hd : 2 ≤ d) (Q :
 (-1 ≤ v5 ∧ v5 ≤ 40) ∧
 0 ≤ (136 + 5 * v5 + 0) ∧ (136 + 5 * v5 + 0) < 336 ∧
 0 ≤ v4 ∧ v4 < 7 ∧
 ∀ h6 : zH, h6 = zu h 136 v4.toNat (h 129 (136 + 5 * v5 + 0).toNat) →
 0 ≤ v4 ∧ v4 < 7 ∧
 (w0 = 0 ∨ w0 = 1) ∧
 ∀ h10 : zH, h10 = zu h6 137 v4.toNat w0 →
 ((w0 = 0 →
  ∃ (d11 : Nat) (P12 : Option zA → zH → Prop), d11 + 1 ≤ d ∧ zSp d11 mX7_canGive [zR 128, zI v5] h10 P12 ∧ ∀ r13 h14, P12 r13 h14 →
  ∃ x17 : Int, r13 = some (zI x17) ∧
  ((x17 = 0 →
   zV RX7 cX7_gathers 9 (some .int) d Post Γ 19 [(0, zR 128), (1, zI v1), (2, zI v2), (3, zI v3)] [] h14) ∧
  (¬ x17 = 0 →
   ∃ (d18 : Nat) (P19 : Option zA → zH → Prop), d18 + 1 ≤ d ∧ zSp d18 mX7_gives [zR 128, zI v5] h14 P19 ∧ ∀ r20 h21, P19 r20 h21 →
   ∃ x24 : Int, r20 = some (zI x24) ∧
   zV RX7 cX7_gathers 9 (some .int) d Post Γ 19 [(0, zR 128), (1, zI v1), (2, zI v2), (3, zI v3)] [] h21))) ∧
 (¬ w0 = 0 →
  ∃ (d25 : Nat) (P26 : Option zA → zH → Prop), d25 + 1 ≤ d ∧ zSp d25 mX7_enter [zR 128, zI v6] h10 P26 ∧ ∀ r27 h28, P26 r27 h28 →
  r27 = none ∧
  zV RX7 cX7_gathers 9 (some .int) d Post Γ 19 [(0, zR 128), (1, zI v1), (2, zI v2), (3, zI v3)] [] h28))) :
    zV RX7 cX7_gathers 9 (some .int) d Post Γ 161 [(0, zR 128), (1, zI v1), (2, zI v2), (3, zI v3), (4, zI v4), (5, zI v5), (6, zI v6)] [zI w0] h := by
  refine z_istore (pc := 161) (ls' := [(7, _), (0, _), (1, _), (2, _), (3, _), (4, _), (5, _), (6, _)]) dX7_gathers_161 (by decide) rfl ?_
  refine z_aload_n (pc := 163) (n := 1) dX7_gathers_163 rfl rfl ?_
  refine z_getR (pc := 164) (q2 := 136) zo_Model rfl inT7 (i := 12) (by decide) wf_X7_38 rfl (fun _ _ => rfl) dX7_gathers_164 ?_
  refine z_iload (pc := 167) (n := 5) dX7_gathers_167 rfl ?_
  refine z_aload_n (pc := 169) (n := 1) dX7_gathers_169 rfl rfl ?_
  refine z_getR (pc := 170) (q2 := 129) zo_Model rfl inT7 (i := 0) (by decide) wf_X7_7 rfl (fun _ _ => rfl) dX7_gathers_170 ?_
  refine z_iload (pc := 173) (n := 6) dX7_gathers_173 rfl ?_
  refine z_iconst (pc := 175) (a := 0) dX7_gathers_175 rfl ?_
  obtain ⟨c1, Q⟩ := Q
  refine z_callS (pc := 176) (M := mX7_of) (as := [_, _]) (st := [_, _, _]) (c_X7_of c1 (by decide)) wt_X7_of wm_X7_of ⟨by omega, by decide⟩ wl_X7_69 dX7_gathers_176 rfl (Nat.le_of_ble_eq_true rfl) rfl ?_
  rintro _ _ ⟨rfl, rfl⟩
  obtain ⟨c2, c3, Q⟩ := Q
  refine z_iald (pc := 179) za_ms c2 c3 dX7_gathers_179 ?_
  obtain ⟨c4, c5, Q⟩ := Q
  refine z_iast (pc := 180) za_mats c4 c5 dX7_gathers_180 ?_
  refine z_heap (fun h6 eh6 => ?_)
  replace Q := Q h6 eh6
  refine z_aload_n (pc := 181) (n := 1) dX7_gathers_181 rfl rfl ?_
  refine z_getR (pc := 182) (q2 := 137) zo_Model rfl inT7 (i := 13) (by decide) wf_X7_41 rfl (fun _ _ => rfl) dX7_gathers_182 ?_
  refine z_iload (pc := 185) (n := 5) dX7_gathers_185 rfl ?_
  refine z_iload (pc := 187) (n := 0) dX7_gathers_187 rfl ?_
  obtain ⟨c7, c8, Q⟩ := Q
  obtain ⟨c9, Q⟩ := Q
  refine z_zast (pc := 189) za_mwaits c7 c8 c9 dX7_gathers_189 ?_
  refine z_heap (fun h10 eh10 => ?_)
  replace Q := Q h10 eh10
  refine z_iload (pc := 190) (n := 0) dX7_gathers_190 rfl ?_
  refine z_if_eq (pc := 192) (tgt := 204) dX7_gathers_192 (by decide) (fun c => ?_) (fun c => ?_)
  · replace Q := Q.1 c
    refine z_aload_n (pc := 204) (n := 1) dX7_gathers_204 rfl rfl ?_
    refine z_iload (pc := 205) (n := 6) dX7_gathers_205 rfl ?_
    obtain ⟨d11, P12, e15, s16, Q⟩ := Q
    refine z_callV (pc := 207) (M := mX7_canGive) (as := [_]) (st := []) s16 zo_Model rfl wi_X7_canGive wm_X7_canGive ⟨by omega, by decide⟩ wl_X7_93 dX7_gathers_207 rfl (Nat.le_of_ble_eq_true rfl) rfl ?_
    intro r13 h14 s16
    obtain ⟨x17, rfl, Q⟩ := Q _ _ s16
    refine z_if_eq (pc := 210) (tgt := 221) dX7_gathers_210 (by decide) (fun c => ?_) (fun c => ?_)
    · replace Q := Q.1 c
      refine z_goto (pc := 221) (tgt := 19) dX7_gathers_221 (by decide) ?_
      exact z_sub (ks := [1, 2, 3, 4]) rfl Q
    · replace Q := Q.2 c
      refine z_aload_n (pc := 213) (n := 1) dX7_gathers_213 rfl rfl ?_
      refine z_iload (pc := 214) (n := 6) dX7_gathers_214 rfl ?_
      obtain ⟨d18, P19, e22, s23, Q⟩ := Q
      refine z_callV (pc := 216) (M := mX7_gives) (as := [_]) (st := []) s23 zo_Model rfl wi_X7_gives wm_X7_gives ⟨by omega, by decide⟩ wl_X7_96 dX7_gathers_216 rfl (Nat.le_of_ble_eq_true rfl) rfl ?_
      intro r20 h21 s23
      obtain ⟨x24, rfl, Q⟩ := Q _ _ s23
      refine z_istore (pc := 219) (ls' := [(8, _), (7, _), (0, _), (1, _), (2, _), (3, _), (4, _), (5, _), (6, _)]) dX7_gathers_219 (by decide) rfl ?_
      refine z_goto (pc := 221) (tgt := 19) dX7_gathers_221 (by decide) ?_
      exact z_sub (ks := [2, 3, 4, 5]) rfl Q
  · replace Q := Q.2 c
    refine z_aload_n (pc := 195) (n := 1) dX7_gathers_195 rfl rfl ?_
    refine z_iload (pc := 196) (n := 7) dX7_gathers_196 rfl ?_
    obtain ⟨d25, P26, e29, s30, Q⟩ := Q
    refine z_callV (pc := 198) (M := mX7_enter) (as := [_]) (st := []) s30 zo_Model rfl wi_X7_enter wm_X7_enter ⟨by omega, by decide⟩ wl_X7_78 dX7_gathers_198 rfl (Nat.le_of_ble_eq_true rfl) rfl ?_
    intro r27 h28 s30
    obtain ⟨rfl, Q⟩ := Q _ _ s30
    refine z_goto (pc := 201) (tgt := 221) dX7_gathers_201 (by decide) ?_
    refine z_goto (pc := 221) (tgt := 19) dX7_gathers_221 (by decide) ?_
    exact z_sub (ks := [1, 2, 3, 4]) rfl Q
set_option maxHeartbeats 4000000 in
set_option maxRecDepth 100000 in
theorem k_X7_giveBack_0 {d : Nat} {Post : Option zA → zH → Prop} {Γ : zCx} {h : zH} {a1 : Int}  (hd : 1 ≤ d) (Q :
 ∃ (d1 : Nat) (P2 : Option zA → zH → Prop), d1 + 1 ≤ d ∧ zSp d1 mX7_backFault [zR 128, zI a1] h P2 ∧ ∀ r3 h4, P2 r3 h4 →
 ∃ x7 : Int, r3 = some (zI x7) ∧
 ((0 ≤ x7 →
  ∃ (d8 : Nat) (P9 : Option zA → zH → Prop), d8 + 1 ≤ d ∧ zSp d8 mX7_know [zR 128] h4 P9 ∧ ∀ r10 h11, P9 r10 h11 →
  r10 = none ∧
  ∃ (d14 : Nat) (P15 : Option zA → zH → Prop), d14 + 1 ≤ d ∧ zSp d14 mX7_placeOf [zR 128, zI a1] h11 P15 ∧ ∀ r16 h17, P15 r16 h17 →
  ∃ x20 : Int, r16 = some (zI x20) ∧
  ∃ (d21 : Nat) (P22 : Option zA → zH → Prop), d21 + 1 ≤ d ∧ zSp d21 mX7_gives [zR 128, zI x20] h17 P22 ∧ ∀ r23 h24, P22 r23 h24 →
  ∃ x27 : Int, r23 = some (zI x27) ∧
  Post (some (zI x27)) h24) ∧
 (¬ 0 ≤ x7 →
  Post (some (zI x7)) h4))) :
    zV RX7 cX7_giveBack 3 (some .int) d Post Γ 0 [(0, zR 128), (1, zI a1)] [] h := by
  refine z_aload_n (pc := 0) (n := 0) dX7_giveBack_0 rfl rfl ?_
  refine z_iload_n (pc := 1) (n := 1) dX7_giveBack_1 rfl rfl ?_
  obtain ⟨d1, P2, e5, s6, Q⟩ := Q
  refine z_callV (pc := 2) (M := mX7_backFault) (as := [_]) (st := []) s6 zo_Model rfl wi_X7_backFault wm_X7_backFault ⟨by omega, by decide⟩ wl_X7_120 dX7_giveBack_2 rfl (Nat.le_of_ble_eq_true rfl) rfl ?_
  intro r3 h4 s6
  obtain ⟨x7, rfl, Q⟩ := Q _ _ s6
  refine z_istore_n (pc := 5) (ls' := [(2, _), (0, _), (1, _)]) dX7_giveBack_5 rfl (by decide) rfl ?_
  refine z_iload_n (pc := 6) (n := 0) dX7_giveBack_6 rfl rfl ?_
  refine z_if_ge (pc := 7) (tgt := 12) dX7_giveBack_7 (by decide) (fun c => ?_) (fun c => ?_)
  · replace Q := Q.1 c
    refine z_aload_n (pc := 12) (n := 1) dX7_giveBack_12 rfl rfl ?_
    obtain ⟨d8, P9, e12, s13, Q⟩ := Q
    refine z_callV (pc := 13) (M := mX7_know) (as := []) (st := []) s13 zo_Model rfl wi_X7_know wm_X7_know ⟨by omega, by decide⟩ wl_X7_114 dX7_giveBack_13 rfl (Nat.le_of_ble_eq_true rfl) rfl ?_
    intro r10 h11 s13
    obtain ⟨rfl, Q⟩ := Q _ _ s13
    refine z_aload_n (pc := 16) (n := 1) dX7_giveBack_16 rfl rfl ?_
    refine z_aload_n (pc := 17) (n := 1) dX7_giveBack_17 rfl rfl ?_
    refine z_iload_n (pc := 18) (n := 2) dX7_giveBack_18 rfl rfl ?_
    obtain ⟨d14, P15, e18, s19, Q⟩ := Q
    refine z_callV (pc := 19) (M := mX7_placeOf) (as := [_]) (st := [_]) s19 zo_Model rfl wi_X7_placeOf wm_X7_placeOf ⟨by omega, by decide⟩ wl_X7_82 dX7_giveBack_19 rfl (Nat.le_of_ble_eq_true rfl) rfl ?_
    intro r16 h17 s19
    obtain ⟨x20, rfl, Q⟩ := Q _ _ s19
    obtain ⟨d21, P22, e25, s26, Q⟩ := Q
    refine z_callV (pc := 22) (M := mX7_gives) (as := [_]) (st := []) s26 zo_Model rfl wi_X7_gives wm_X7_gives ⟨by omega, by decide⟩ wl_X7_96 dX7_giveBack_22 rfl (Nat.le_of_ble_eq_true rfl) rfl ?_
    intro r23 h24 s26
    obtain ⟨x27, rfl, Q⟩ := Q _ _ s26
    exact z_iret (pc := 25) rfl dX7_giveBack_25 Q
  · replace Q := Q.2 c
    refine z_iload_n (pc := 10) (n := 0) dX7_giveBack_10 rfl rfl ?_
    exact z_iret (pc := 11) rfl dX7_giveBack_11 Q
set_option maxHeartbeats 4000000 in
set_option maxRecDepth 100000 in
theorem k_X7_gives_0 {d : Nat} {Post : Option zA → zH → Prop} {Γ : zCx} {h : zH} {a1 : Int}  (hd : 2 ≤ d) (Q :
 (-1 ≤ a1 ∧ a1 ≤ 40) ∧
 0 ≤ (136 + 5 * a1 + 1) ∧ (136 + 5 * a1 + 1) < 336 ∧
 ∀ x4 : Int, x4 = (h 129 (136 + 5 * a1 + 1).toNat) →
 (-1 ≤ a1 ∧ a1 ≤ 40) ∧
 0 ≤ (136 + 5 * a1 + 3) ∧ (136 + 5 * a1 + 3) < 336 ∧
 ∀ x8 : Int, x8 = (h 129 (136 + 5 * a1 + 3).toNat) →
 (-1 ≤ a1 ∧ a1 ≤ 40) ∧
 0 ≤ (136 + 5 * a1 + 2) ∧ (136 + 5 * a1 + 2) < 336 ∧
 (0 ≤ (h 129 (136 + 5 * a1 + 2).toNat) ∧ (h 129 (136 + 5 * a1 + 2).toNat) ≤ 5) ∧
 (0 ≤ x8 ∧ x8 ≤ 5) ∧
 0 ≤ (6 * x8 + (h 129 (136 + 5 * a1 + 2).toNat)) ∧ (6 * x8 + (h 129 (136 + 5 * a1 + 2).toNat)) < 336 ∧
 (-1 ≤ a1 ∧ a1 ≤ 40) ∧
 0 ≤ (136 + 5 * a1 + 4) ∧ (136 + 5 * a1 + 4) < 336 ∧
 0 ≤ (6 * x8 + (h 129 (136 + 5 * a1 + 2).toNat)) ∧ (6 * x8 + (h 129 (136 + 5 * a1 + 2).toNat)) < 336 ∧
 ∀ h21 : zH, h21 = zu h 129 (6 * x8 + (h 129 (136 + 5 * a1 + 2).toNat)).toNat (zwr ((h 129 (6 * x8 + (h 129 (136 + 5 * a1 + 2).toNat)).toNat) - (h 129 (136 + 5 * a1 + 4).toNat))) →
 (0 ≤ x4 ∧ x4 ≤ 5) ∧
 (0 ≤ x8 ∧ x8 ≤ 5) ∧
 0 ≤ (6 * x8 + x4) ∧ (6 * x8 + x4) < 336 ∧
 (-1 ≤ a1 ∧ a1 ≤ 40) ∧
 0 ≤ (136 + 5 * a1 + 4) ∧ (136 + 5 * a1 + 4) < 336 ∧
 0 ≤ (6 * x8 + x4) ∧ (6 * x8 + x4) < 336 ∧
 ∀ h31 : zH, h31 = zu h21 129 (6 * x8 + x4).toNat (zwr ((h21 129 (6 * x8 + x4).toNat) + (h21 129 (136 + 5 * a1 + 4).toNat))) →
 (-1 ≤ a1 ∧ a1 ≤ 40) ∧
 ∀ x33 : Int, x33 = (136 + 5 * a1 + 0) →
 zV RX7 cX7_gives 5 (some .int) d Post Γ 84 [(0, zR 128), (1, zI a1), (2, zI x4), (3, zI x8), (4, zI x33)] [] h31) :
    zV RX7 cX7_gives 5 (some .int) d Post Γ 0 [(0, zR 128), (1, zI a1)] [] h := by
  refine z_aload_n (pc := 0) (n := 0) dX7_gives_0 rfl rfl ?_
  refine z_getR (pc := 1) (q2 := 129) zo_Model rfl inT7 (i := 0) (by decide) wf_X7_7 rfl (fun _ _ => rfl) dX7_gives_1 ?_
  refine z_iload_n (pc := 4) (n := 1) dX7_gives_4 rfl rfl ?_
  refine z_iconst (pc := 5) (a := 1) dX7_gives_5 rfl ?_
  obtain ⟨c1, Q⟩ := Q
  refine z_callS (pc := 6) (M := mX7_of) (as := [_, _]) (st := [_]) (c_X7_of c1 (by decide)) wt_X7_of wm_X7_of ⟨by omega, by decide⟩ wl_X7_69 dX7_gives_6 rfl (Nat.le_of_ble_eq_true rfl) rfl ?_
  rintro _ _ ⟨rfl, rfl⟩
  obtain ⟨c2, c3, Q⟩ := Q
  refine z_iald (pc := 9) za_ms c2 c3 dX7_gives_9 ?_
  refine z_top (fun x4 ex4 => ?_)
  replace Q := Q x4 ex4
  refine z_istore_n (pc := 10) (ls' := [(2, _), (0, _), (1, _)]) dX7_gives_10 rfl (by decide) rfl ?_
  refine z_aload_n (pc := 11) (n := 1) dX7_gives_11 rfl rfl ?_
  refine z_getR (pc := 12) (q2 := 129) zo_Model rfl inT7 (i := 0) (by decide) wf_X7_7 rfl (fun _ _ => rfl) dX7_gives_12 ?_
  refine z_iload_n (pc := 15) (n := 2) dX7_gives_15 rfl rfl ?_
  refine z_iconst (pc := 16) (a := 3) dX7_gives_16 rfl ?_
  obtain ⟨c5, Q⟩ := Q
  refine z_callS (pc := 17) (M := mX7_of) (as := [_, _]) (st := [_]) (c_X7_of c5 (by decide)) wt_X7_of wm_X7_of ⟨by omega, by decide⟩ wl_X7_69 dX7_gives_17 rfl (Nat.le_of_ble_eq_true rfl) rfl ?_
  rintro _ _ ⟨rfl, rfl⟩
  obtain ⟨c6, c7, Q⟩ := Q
  refine z_iald (pc := 20) za_ms c6 c7 dX7_gives_20 ?_
  refine z_top (fun x8 ex8 => ?_)
  replace Q := Q x8 ex8
  refine z_istore_n (pc := 21) (ls' := [(3, _), (2, _), (0, _), (1, _)]) dX7_gives_21 rfl (by decide) rfl ?_
  refine z_aload_n (pc := 22) (n := 2) dX7_gives_22 rfl rfl ?_
  refine z_getR (pc := 23) (q2 := 129) zo_Model rfl inT7 (i := 0) (by decide) wf_X7_7 rfl (fun _ _ => rfl) dX7_gives_23 ?_
  refine z_aload_n (pc := 26) (n := 2) dX7_gives_26 rfl rfl ?_
  refine z_getR (pc := 27) (q2 := 129) zo_Model rfl inT7 (i := 0) (by decide) wf_X7_7 rfl (fun _ _ => rfl) dX7_gives_27 ?_
  refine z_iload_n (pc := 30) (n := 3) dX7_gives_30 rfl rfl ?_
  refine z_iconst (pc := 31) (a := 2) dX7_gives_31 rfl ?_
  obtain ⟨c9, Q⟩ := Q
  refine z_callS (pc := 32) (M := mX7_of) (as := [_, _]) (st := [_, _]) (c_X7_of c9 (by decide)) wt_X7_of wm_X7_of ⟨by omega, by decide⟩ wl_X7_69 dX7_gives_32 rfl (Nat.le_of_ble_eq_true rfl) rfl ?_
  rintro _ _ ⟨rfl, rfl⟩
  obtain ⟨c10, c11, Q⟩ := Q
  refine z_iald (pc := 35) za_ms c10 c11 dX7_gives_35 ?_
  refine z_iload_n (pc := 36) (n := 0) dX7_gives_36 rfl rfl ?_
  obtain ⟨c12, Q⟩ := Q
  obtain ⟨c13, Q⟩ := Q
  refine z_callS (pc := 37) (M := mX7_held) (as := [_, _]) (st := [_]) (c_X7_held c12 c13) wt_X7_held wm_X7_held ⟨by omega, by decide⟩ wl_X7_51 dX7_gives_37 rfl (Nat.le_of_ble_eq_true rfl) rfl ?_
  rintro _ _ ⟨rfl, rfl⟩
  refine z_dup2 (pc := 40) dX7_gives_40 rfl rfl ?_
  obtain ⟨c14, c15, Q⟩ := Q
  refine z_iald (pc := 41) za_ms c14 c15 dX7_gives_41 ?_
  refine z_aload_n (pc := 42) (n := 2) dX7_gives_42 rfl rfl ?_
  refine z_getR (pc := 43) (q2 := 129) zo_Model rfl inT7 (i := 0) (by decide) wf_X7_7 rfl (fun _ _ => rfl) dX7_gives_43 ?_
  refine z_iload_n (pc := 46) (n := 3) dX7_gives_46 rfl rfl ?_
  refine z_iconst (pc := 47) (a := 4) dX7_gives_47 rfl ?_
  obtain ⟨c16, Q⟩ := Q
  refine z_callS (pc := 48) (M := mX7_of) (as := [_, _]) (st := [_, _, _, _]) (c_X7_of c16 (by decide)) wt_X7_of wm_X7_of ⟨by omega, by decide⟩ wl_X7_69 dX7_gives_48 rfl (Nat.le_of_ble_eq_true rfl) rfl ?_
  rintro _ _ ⟨rfl, rfl⟩
  obtain ⟨c17, c18, Q⟩ := Q
  refine z_iald (pc := 51) za_ms c17 c18 dX7_gives_51 ?_
  refine z_isub (pc := 52) dX7_gives_52 ?_
  obtain ⟨c19, c20, Q⟩ := Q
  refine z_iast (pc := 53) za_ms c19 c20 dX7_gives_53 ?_
  refine z_heap (fun h21 eh21 => ?_)
  replace Q := Q h21 eh21
  refine z_aload_n (pc := 54) (n := 2) dX7_gives_54 rfl rfl ?_
  refine z_getR (pc := 55) (q2 := 129) zo_Model rfl inT7 (i := 0) (by decide) wf_X7_7 rfl (fun _ _ => rfl) dX7_gives_55 ?_
  refine z_iload_n (pc := 58) (n := 1) dX7_gives_58 rfl rfl ?_
  refine z_iload_n (pc := 59) (n := 0) dX7_gives_59 rfl rfl ?_
  obtain ⟨c22, Q⟩ := Q
  obtain ⟨c23, Q⟩ := Q
  refine z_callS (pc := 60) (M := mX7_held) (as := [_, _]) (st := [_]) (c_X7_held c22 c23) wt_X7_held wm_X7_held ⟨by omega, by decide⟩ wl_X7_51 dX7_gives_60 rfl (Nat.le_of_ble_eq_true rfl) rfl ?_
  rintro _ _ ⟨rfl, rfl⟩
  refine z_dup2 (pc := 63) dX7_gives_63 rfl rfl ?_
  obtain ⟨c24, c25, Q⟩ := Q
  refine z_iald (pc := 64) za_ms c24 c25 dX7_gives_64 ?_
  refine z_aload_n (pc := 65) (n := 2) dX7_gives_65 rfl rfl ?_
  refine z_getR (pc := 66) (q2 := 129) zo_Model rfl inT7 (i := 0) (by decide) wf_X7_7 rfl (fun _ _ => rfl) dX7_gives_66 ?_
  refine z_iload_n (pc := 69) (n := 3) dX7_gives_69 rfl rfl ?_
  refine z_iconst (pc := 70) (a := 4) dX7_gives_70 rfl ?_
  obtain ⟨c26, Q⟩ := Q
  refine z_callS (pc := 71) (M := mX7_of) (as := [_, _]) (st := [_, _, _, _]) (c_X7_of c26 (by decide)) wt_X7_of wm_X7_of ⟨by omega, by decide⟩ wl_X7_69 dX7_gives_71 rfl (Nat.le_of_ble_eq_true rfl) rfl ?_
  rintro _ _ ⟨rfl, rfl⟩
  obtain ⟨c27, c28, Q⟩ := Q
  refine z_iald (pc := 74) za_ms c27 c28 dX7_gives_74 ?_
  refine z_iadd (pc := 75) dX7_gives_75 ?_
  obtain ⟨c29, c30, Q⟩ := Q
  refine z_iast (pc := 76) za_ms c29 c30 dX7_gives_76 ?_
  refine z_heap (fun h31 eh31 => ?_)
  replace Q := Q h31 eh31
  refine z_iload_n (pc := 77) (n := 3) dX7_gives_77 rfl rfl ?_
  refine z_iconst (pc := 78) (a := 0) dX7_gives_78 rfl ?_
  obtain ⟨c32, Q⟩ := Q
  refine z_callS (pc := 79) (M := mX7_of) (as := [_, _]) (st := []) (c_X7_of c32 (by decide)) wt_X7_of wm_X7_of ⟨by omega, by decide⟩ wl_X7_69 dX7_gives_79 rfl (Nat.le_of_ble_eq_true rfl) rfl ?_
  rintro _ _ ⟨rfl, rfl⟩
  refine z_top (fun x33 ex33 => ?_)
  replace Q := Q x33 ex33
  refine z_istore (pc := 82) (ls' := [(4, _), (3, _), (2, _), (0, _), (1, _)]) dX7_gives_82 (by decide) rfl ?_
  exact z_sub (ks := [3, 4, 2, 1, 0]) rfl Q
set_option maxHeartbeats 4000000 in
set_option maxRecDepth 100000 in
theorem k_X7_gives_84 {d : Nat} {Post : Option zA → zH → Prop} {Γ : zCx} {h : zH} {v1 : Int} {v2 : Int} {v3 : Int} {v4 : Int}  (hd : 2 ≤ d) (Q :
 (-1 ≤ (zwr ((h 129 132) - 1)) ∧ (zwr ((h 129 132) - 1)) ≤ 40) ∧
 (((136 + 5 * (zwr ((h 129 132) - 1)) + 0) ≤ v4 →
  ∀ h2 : zH, h2 = zu h 129 132 (zwr ((h 129 132) - 1)) →
  ∀ h3 : zH, h3 = zu h2 129 135 (zwr ((h2 129 135) + 1)) →
  (0 ≤ v2 ∧ v2 ≤ 5) ∧
  (0 ≤ v3 ∧ v3 ≤ 5) ∧
  0 ≤ (6 * v3 + v2) ∧ (6 * v3 + v2) < 336 ∧
  Post (some (zI (h3 129 (6 * v3 + v2).toNat))) h3) ∧
 (¬ (136 + 5 * (zwr ((h 129 132) - 1)) + 0) ≤ v4 →
  0 ≤ (zwr (v4 + 5)) ∧ (zwr (v4 + 5)) < 336 ∧
  0 ≤ v4 ∧ v4 < 336 ∧
  ∀ h12 : zH, h12 = zu h 129 v4.toNat (h 129 (zwr (v4 + 5)).toNat) →
  ∀ x13 : Int, x13 = zwr (v4 + 1) →
  zV RX7 cX7_gives 5 (some .int) d Post Γ 84 [(0, zR 128), (1, zI v1), (2, zI v2), (3, zI v3), (4, zI x13)] [] h12))) :
    zV RX7 cX7_gives 5 (some .int) d Post Γ 84 [(0, zR 128), (1, zI v1), (2, zI v2), (3, zI v3), (4, zI v4)] [] h := by
  refine z_iload (pc := 84) (n := 4) dX7_gives_84 rfl ?_
  refine z_aload_n (pc := 86) (n := 0) dX7_gives_86 rfl rfl ?_
  refine z_getR (pc := 87) (q2 := 129) zo_Model rfl inT7 (i := 0) (by decide) wf_X7_7 rfl (fun _ _ => rfl) dX7_gives_87 ?_
  refine z_sipush (pc := 90) (a := 132) dX7_gives_90 rfl ?_
  refine z_iald (pc := 93) za_ms (by decide) (by decide) dX7_gives_93 ?_
  refine z_iconst (pc := 94) (a := 1) dX7_gives_94 rfl ?_
  refine z_isub (pc := 95) dX7_gives_95 ?_
  refine z_iconst (pc := 96) (a := 0) dX7_gives_96 rfl ?_
  obtain ⟨c1, Q⟩ := Q
  refine z_callS (pc := 97) (M := mX7_of) (as := [_, _]) (st := [_]) (c_X7_of c1 (by decide)) wt_X7_of wm_X7_of ⟨by omega, by decide⟩ wl_X7_69 dX7_gives_97 rfl (Nat.le_of_ble_eq_true rfl) rfl ?_
  rintro _ _ ⟨rfl, rfl⟩
  refine z_icmp_ge (pc := 100) (tgt := 125) dX7_gives_100 (by decide) (fun c => ?_) (fun c => ?_)
  · replace Q := Q.1 c
    refine z_aload_n (pc := 125) (n := 0) dX7_gives_125 rfl rfl ?_
    refine z_getR (pc := 126) (q2 := 129) zo_Model rfl inT7 (i := 0) (by decide) wf_X7_7 rfl (fun _ _ => rfl) dX7_gives_126 ?_
    refine z_sipush (pc := 129) (a := 132) dX7_gives_129 rfl ?_
    refine z_dup2 (pc := 132) dX7_gives_132 rfl rfl ?_
    refine z_iald (pc := 133) za_ms (by decide) (by decide) dX7_gives_133 ?_
    refine z_iconst (pc := 134) (a := 1) dX7_gives_134 rfl ?_
    refine z_isub (pc := 135) dX7_gives_135 ?_
    refine z_iast (pc := 136) za_ms (by decide) (by decide) dX7_gives_136 ?_
    refine z_heap (fun h2 eh2 => ?_)
    replace Q := Q h2 eh2
    refine z_aload_n (pc := 137) (n := 0) dX7_gives_137 rfl rfl ?_
    refine z_getR (pc := 138) (q2 := 129) zo_Model rfl inT7 (i := 0) (by decide) wf_X7_7 rfl (fun _ _ => rfl) dX7_gives_138 ?_
    refine z_sipush (pc := 141) (a := 135) dX7_gives_141 rfl ?_
    refine z_dup2 (pc := 144) dX7_gives_144 rfl rfl ?_
    refine z_iald (pc := 145) za_ms (by decide) (by decide) dX7_gives_145 ?_
    refine z_iconst (pc := 146) (a := 1) dX7_gives_146 rfl ?_
    refine z_iadd (pc := 147) dX7_gives_147 ?_
    refine z_iast (pc := 148) za_ms (by decide) (by decide) dX7_gives_148 ?_
    refine z_heap (fun h3 eh3 => ?_)
    replace Q := Q h3 eh3
    refine z_aload_n (pc := 149) (n := 0) dX7_gives_149 rfl rfl ?_
    refine z_getR (pc := 150) (q2 := 129) zo_Model rfl inT7 (i := 0) (by decide) wf_X7_7 rfl (fun _ _ => rfl) dX7_gives_150 ?_
    refine z_iload_n (pc := 153) (n := 2) dX7_gives_153 rfl rfl ?_
    refine z_iload_n (pc := 154) (n := 3) dX7_gives_154 rfl rfl ?_
    obtain ⟨c4, Q⟩ := Q
    obtain ⟨c5, Q⟩ := Q
    refine z_callS (pc := 155) (M := mX7_held) (as := [_, _]) (st := [_]) (c_X7_held c4 c5) wt_X7_held wm_X7_held ⟨by omega, by decide⟩ wl_X7_51 dX7_gives_155 rfl (Nat.le_of_ble_eq_true rfl) rfl ?_
    rintro _ _ ⟨rfl, rfl⟩
    obtain ⟨c6, c7, Q⟩ := Q
    refine z_iald (pc := 158) za_ms c6 c7 dX7_gives_158 ?_
    exact z_iret (pc := 159) rfl dX7_gives_159 Q
  · replace Q := Q.2 c
    refine z_aload_n (pc := 103) (n := 0) dX7_gives_103 rfl rfl ?_
    refine z_getR (pc := 104) (q2 := 129) zo_Model rfl inT7 (i := 0) (by decide) wf_X7_7 rfl (fun _ _ => rfl) dX7_gives_104 ?_
    refine z_iload (pc := 107) (n := 4) dX7_gives_107 rfl ?_
    refine z_aload_n (pc := 109) (n := 0) dX7_gives_109 rfl rfl ?_
    refine z_getR (pc := 110) (q2 := 129) zo_Model rfl inT7 (i := 0) (by decide) wf_X7_7 rfl (fun _ _ => rfl) dX7_gives_110 ?_
    refine z_iload (pc := 113) (n := 4) dX7_gives_113 rfl ?_
    refine z_iconst (pc := 115) (a := 5) dX7_gives_115 rfl ?_
    refine z_iadd (pc := 116) dX7_gives_116 ?_
    obtain ⟨c8, c9, Q⟩ := Q
    refine z_iald (pc := 117) za_ms c8 c9 dX7_gives_117 ?_
    obtain ⟨c10, c11, Q⟩ := Q
    refine z_iast (pc := 118) za_ms c10 c11 dX7_gives_118 ?_
    refine z_heap (fun h12 eh12 => ?_)
    replace Q := Q h12 eh12
    refine z_iincg (pc := 119) (n := 4) (lf := fun y => [(4, zI y), (0, _), (1, _), (2, _), (3, _)]) dX7_gives_119 rfl (by decide) (fun _ => rfl) (fun x13 ex13 => ?_)
    replace Q := Q x13 ex13
    refine z_goto (pc := 122) (tgt := 84) dX7_gives_122 (by decide) ?_
    exact z_sub (ks := [1, 2, 3, 4, 0]) rfl Q
set_option maxHeartbeats 4000000 in
set_option maxRecDepth 100000 in
theorem k_X7_go_0 {d : Nat} {Post : Option zA → zH → Prop} {Γ : zCx} {h : zH} {a1 : Int}  (hd : 1 ≤ d) (Q :
 ∀ h1 : zH, h1 = zu h 128 15 0 →
 ∀ h2 : zH, h2 = zu h1 128 16 0 →
 ∀ h3 : zH, h3 = zu h2 128 18 0 →
 zV RX7 cX7_go 5 (some .int) d Post Γ 19 [(0, zR 128), (1, zI a1), (2, zI 0), (3, zI 1)] [] h3) :
    zV RX7 cX7_go 5 (some .int) d Post Γ 0 [(0, zR 128), (1, zI a1)] [] h := by
  refine z_aload_n (pc := 0) (n := 0) dX7_go_0 rfl rfl ?_
  refine z_iconst (pc := 1) (a := 0) dX7_go_1 rfl ?_
  refine z_putI (pc := 2) zo_Model rfl inT7 (i := 15) (by decide) wf_X7_151 rfl tyX7 tyX7_ok nmX7 rfl (fun _ _ => Nat.le_of_ble_eq_true rfl) (fun _ _ _ => rfl) rfl dX7_go_2 ?_
  refine z_heap (fun h1 eh1 => ?_)
  replace Q := Q h1 eh1
  refine z_aload_n (pc := 5) (n := 0) dX7_go_5 rfl rfl ?_
  refine z_iconst (pc := 6) (a := 0) dX7_go_6 rfl ?_
  refine z_putZ (pc := 7) zo_Model rfl inT7 (i := 16) (by decide) wf_X7_154 rfl tyX7 tyX7_ok nmX7 rfl (fun _ _ => Nat.le_of_ble_eq_true rfl) (fun _ _ _ => rfl) (by decide) rfl dX7_go_7 ?_
  refine z_heap (fun h2 eh2 => ?_)
  replace Q := Q h2 eh2
  refine z_aload_n (pc := 10) (n := 0) dX7_go_10 rfl rfl ?_
  refine z_iconst (pc := 11) (a := 0) dX7_go_11 rfl ?_
  refine z_putI (pc := 12) zo_Model rfl inT7 (i := 18) (by decide) wf_X7_168 rfl tyX7 tyX7_ok nmX7 rfl (fun _ _ => Nat.le_of_ble_eq_true rfl) (fun _ _ _ => rfl) rfl dX7_go_12 ?_
  refine z_heap (fun h3 eh3 => ?_)
  replace Q := Q h3 eh3
  refine z_iconst (pc := 15) (a := 0) dX7_go_15 rfl ?_
  refine z_istore_n (pc := 16) (ls' := [(2, _), (0, _), (1, _)]) dX7_go_16 rfl (by decide) rfl ?_
  refine z_iconst (pc := 17) (a := 1) dX7_go_17 rfl ?_
  refine z_istore_n (pc := 18) (ls' := [(3, _), (2, _), (0, _), (1, _)]) dX7_go_18 rfl (by decide) rfl ?_
  exact z_sub (ks := [2, 3, 1, 0]) rfl Q
set_option maxHeartbeats 4000000 in
set_option maxRecDepth 100000 in
theorem k_X7_go_19 {d : Nat} {Post : Option zA → zH → Prop} {Γ : zCx} {h : zH} {v1 : Int} {v2 : Int} {v3 : Int}  (hd : 1 ≤ d) (Q :
 ((v3 = 0 →
  Post (some (zI v2)) h) ∧
 (¬ v3 = 0 →
  ∃ (d1 : Nat) (P2 : Option zA → zH → Prop), d1 + 1 ≤ d ∧ zSp d1 mX7_order [zR 128] h P2 ∧ ∀ r3 h4, P2 r3 h4 →
  r3 = none ∧
  ((v1 = 0 →
   zV RX7 cX7_go 5 (some .int) d Post Γ 40 [(0, zR 128), (1, zI v1), (2, zI v2), (3, zI v3)] [zI 0, zR 128] h4) ∧
  (¬ v1 = 0 →
   ∃ (d7 : Nat) (P8 : Option zA → zH → Prop), d7 + 1 ≤ d ∧ zSp d7 mX7_does [zR 128] h4 P8 ∧ ∀ r9 h10, P8 r9 h10 →
   ∃ x13 : Int, r9 = some (zI x13) ∧
   zV RX7 cX7_go 5 (some .int) d Post Γ 40 [(0, zR 128), (1, zI v1), (2, zI v2), (3, zI v3)] [zI x13, zR 128] h10))))) :
    zV RX7 cX7_go 5 (some .int) d Post Γ 19 [(0, zR 128), (1, zI v1), (2, zI v2), (3, zI v3)] [] h := by
  refine z_iload_n (pc := 19) (n := 3) dX7_go_19 rfl rfl ?_
  refine z_if_eq (pc := 20) (tgt := 119) dX7_go_20 (by decide) (fun c => ?_) (fun c => ?_)
  · replace Q := Q.1 c
    refine z_iload_n (pc := 119) (n := 2) dX7_go_119 rfl rfl ?_
    exact z_iret (pc := 120) rfl dX7_go_120 Q
  · replace Q := Q.2 c
    refine z_aload_n (pc := 23) (n := 0) dX7_go_23 rfl rfl ?_
    obtain ⟨d1, P2, e5, s6, Q⟩ := Q
    refine z_callV (pc := 24) (M := mX7_order) (as := []) (st := []) s6 zo_Model rfl wi_X7_order wm_X7_order ⟨by omega, by decide⟩ wl_X7_171 dX7_go_24 rfl (Nat.le_of_ble_eq_true rfl) rfl ?_
    intro r3 h4 s6
    obtain ⟨rfl, Q⟩ := Q _ _ s6
    refine z_aload_n (pc := 27) (n := 0) dX7_go_27 rfl rfl ?_
    refine z_iload_n (pc := 28) (n := 1) dX7_go_28 rfl rfl ?_
    refine z_if_eq (pc := 29) (tgt := 39) dX7_go_29 (by decide) (fun c => ?_) (fun c => ?_)
    · replace Q := Q.1 c
      refine z_iconst (pc := 39) (a := 0) dX7_go_39 rfl ?_
      exact z_sub (ks := [0, 1, 2, 3]) rfl Q
    · replace Q := Q.2 c
      refine z_aload_n (pc := 32) (n := 0) dX7_go_32 rfl rfl ?_
      obtain ⟨d7, P8, e11, s12, Q⟩ := Q
      refine z_callV (pc := 33) (M := mX7_does) (as := []) (st := [_]) s12 zo_Model rfl wi_X7_does wm_X7_does ⟨by omega, by decide⟩ wl_X7_174 dX7_go_33 rfl (Nat.le_of_ble_eq_true rfl) rfl ?_
      intro r9 h10 s12
      obtain ⟨x13, rfl, Q⟩ := Q _ _ s12
      refine z_goto (pc := 36) (tgt := 40) dX7_go_36 (by decide) ?_
      exact z_sub (ks := [0, 1, 2, 3]) rfl Q
set_option maxHeartbeats 4000000 in
set_option maxRecDepth 100000 in
theorem k_X7_go_40 {d : Nat} {Post : Option zA → zH → Prop} {Γ : zCx} {h : zH} {v1 : Int} {v2 : Int} {v3 : Int} {w0 : Int}  (hd : 1 ≤ d) (Q :
 ∀ h1 : zH, h1 = zu h 128 18 w0 →
 ((¬ (h1 128 18) = 0 →
  zV RX7 cX7_go 5 (some .int) d Post Γ 56 [(0, zR 128), (1, zI v1), (2, zI v2), (3, zI v3)] [zI 0, zI v2] h1) ∧
 ((h1 128 18) = 0 →
  zV RX7 cX7_go 5 (some .int) d Post Γ 56 [(0, zR 128), (1, zI v1), (2, zI v2), (3, zI v3)] [zI 1, zI v2] h1))) :
    zV RX7 cX7_go 5 (some .int) d Post Γ 40 [(0, zR 128), (1, zI v1), (2, zI v2), (3, zI v3)] [zI w0, zR 128] h := by
  refine z_putI (pc := 40) zo_Model rfl inT7 (i := 18) (by decide) wf_X7_168 rfl tyX7 tyX7_ok nmX7 rfl (fun _ _ => Nat.le_of_ble_eq_true rfl) (fun _ _ _ => rfl) rfl dX7_go_40 ?_
  refine z_heap (fun h1 eh1 => ?_)
  replace Q := Q h1 eh1
  refine z_iload_n (pc := 43) (n := 2) dX7_go_43 rfl rfl ?_
  refine z_aload_n (pc := 44) (n := 0) dX7_go_44 rfl rfl ?_
  refine z_getI (pc := 45) zo_Model rfl inT7 (i := 18) (by decide) wf_X7_168 rfl (fun _ _ => rfl) dX7_go_45 ?_
  refine z_if_ne (pc := 48) (tgt := 55) dX7_go_48 (by decide) (fun c => ?_) (fun c => ?_)
  · replace Q := Q.1 c
    refine z_iconst (pc := 55) (a := 0) dX7_go_55 rfl ?_
    exact z_sub (ks := [0, 1, 2, 3]) rfl Q
  · replace Q := Q.2 c
    refine z_iconst (pc := 51) (a := 1) dX7_go_51 rfl ?_
    refine z_goto (pc := 52) (tgt := 56) dX7_go_52 (by decide) ?_
    exact z_sub (ks := [0, 1, 2, 3]) rfl Q
set_option maxHeartbeats 4000000 in
set_option maxRecDepth 100000 in
theorem k_X7_go_56 {d : Nat} {Post : Option zA → zH → Prop} {Γ : zCx} {h : zH} {v1 : Int} {v2 : Int} {v3 : Int} {w0 : Int} {w1 : Int}  (hd : 1 ≤ d) (Q :
 ∀ x1 : Int, x1 = (zwr (w1 + w0)) →
 ((¬ (h 128 16) = 0 →
  zV RX7 cX7_go 5 (some .int) d Post Γ 87 [(0, zR 128), (1, zI v1), (2, zI x1), (3, zI v3)] [] h) ∧
 ((h 128 16) = 0 →
  ((¬ (h 128 18) = 0 →
   zV RX7 cX7_go 5 (some .int) d Post Γ 87 [(0, zR 128), (1, zI v1), (2, zI x1), (3, zI v3)] [] h) ∧
  ((h 128 18) = 0 →
   (((h 128 8) ≤ (h 128 15) →
    zV RX7 cX7_go 5 (some .int) d Post Γ 87 [(0, zR 128), (1, zI v1), (2, zI x1), (3, zI v3)] [] h) ∧
   (¬ (h 128 8) ≤ (h 128 15) →
    zV RX7 cX7_go 5 (some .int) d Post Γ 88 [(0, zR 128), (1, zI v1), (2, zI x1), (3, zI v3)] [zI 1] h))))))) :
    zV RX7 cX7_go 5 (some .int) d Post Γ 56 [(0, zR 128), (1, zI v1), (2, zI v2), (3, zI v3)] [zI w0, zI w1] h := by
  refine z_iadd (pc := 56) dX7_go_56 ?_
  refine z_top (fun x1 ex1 => ?_)
  replace Q := Q x1 ex1
  refine z_istore_n (pc := 57) (ls' := [(2, _), (0, _), (1, _), (3, _)]) dX7_go_57 rfl (by decide) rfl ?_
  refine z_aload_n (pc := 58) (n := 1) dX7_go_58 rfl rfl ?_
  refine z_getI (pc := 59) zo_Model rfl inT7 (i := 16) (by decide) wf_X7_154 rfl (fun _ _ => rfl) dX7_go_59 ?_
  refine z_if_ne (pc := 62) (tgt := 87) dX7_go_62 (by decide) (fun c => ?_) (fun c => ?_)
  · replace Q := Q.1 c
    exact z_sub (ks := [1, 2, 0, 3]) rfl Q
  · replace Q := Q.2 c
    refine z_aload_n (pc := 65) (n := 1) dX7_go_65 rfl rfl ?_
    refine z_getI (pc := 66) zo_Model rfl inT7 (i := 18) (by decide) wf_X7_168 rfl (fun _ _ => rfl) dX7_go_66 ?_
    refine z_if_ne (pc := 69) (tgt := 87) dX7_go_69 (by decide) (fun c => ?_) (fun c => ?_)
    · replace Q := Q.1 c
      exact z_sub (ks := [1, 2, 0, 3]) rfl Q
    · replace Q := Q.2 c
      refine z_aload_n (pc := 72) (n := 1) dX7_go_72 rfl rfl ?_
      refine z_getI (pc := 73) zo_Model rfl inT7 (i := 15) (by decide) wf_X7_151 rfl (fun _ _ => rfl) dX7_go_73 ?_
      refine z_aload_n (pc := 76) (n := 1) dX7_go_76 rfl rfl ?_
      refine z_getI (pc := 77) zo_Model rfl inT7 (i := 8) (by decide) wf_X7_148 rfl (fun _ _ => rfl) dX7_go_77 ?_
      refine z_icmp_ge (pc := 80) (tgt := 87) dX7_go_80 (by decide) (fun c => ?_) (fun c => ?_)
      · replace Q := Q.1 c
        exact z_sub (ks := [1, 2, 0, 3]) rfl Q
      · replace Q := Q.2 c
        refine z_iconst (pc := 83) (a := 1) dX7_go_83 rfl ?_
        refine z_goto (pc := 84) (tgt := 88) dX7_go_84 (by decide) ?_
        exact z_sub (ks := [1, 2, 0, 3]) rfl Q
set_option maxHeartbeats 4000000 in
set_option maxRecDepth 100000 in
theorem k_X7_go_87 {d : Nat} {Post : Option zA → zH → Prop} {Γ : zCx} {h : zH} {v1 : Int} {v2 : Int} {v3 : Int}  (hd : 1 ≤ d) (Q :
 zV RX7 cX7_go 5 (some .int) d Post Γ 88 [(0, zR 128), (1, zI v1), (2, zI v2), (3, zI v3)] [zI 0] h) :
    zV RX7 cX7_go 5 (some .int) d Post Γ 87 [(0, zR 128), (1, zI v1), (2, zI v2), (3, zI v3)] [] h := by
  refine z_iconst (pc := 87) (a := 0) dX7_go_87 rfl ?_
  exact z_sub (ks := [0, 1, 2, 3]) rfl Q
set_option maxHeartbeats 4000000 in
set_option maxRecDepth 100000 in
theorem k_X7_go_88 {d : Nat} {Post : Option zA → zH → Prop} {Γ : zCx} {h : zH} {v1 : Int} {v2 : Int} {v3 : Int} {w0 : Int}  (hd : 1 ≤ d) (Q :
 ((w0 = 0 →
  zV RX7 cX7_go 5 (some .int) d Post Γ 19 [(0, zR 128), (1, zI v1), (2, zI v2), (3, zI w0)] [] h) ∧
 (¬ w0 = 0 →
  ∃ (d1 : Nat) (P2 : Option zA → zH → Prop), d1 + 1 ≤ d ∧ zSp d1 mX7_sign [zR 128, zI 44, zI 44] h P2 ∧ ∀ r3 h4, P2 r3 h4 →
  ∃ x7 : Int, r3 = some (zI x7) ∧
  ((¬ (h4 128 16) = 0 →
   zV RX7 cX7_go 5 (some .int) d Post Γ 19 [(0, zR 128), (1, zI v1), (2, zI v2), (3, zI 0)] [] h4) ∧
  ((h4 128 16) = 0 →
   zV RX7 cX7_go 5 (some .int) d Post Γ 19 [(0, zR 128), (1, zI v1), (2, zI v2), (3, zI 1)] [] h4))))) :
    zV RX7 cX7_go 5 (some .int) d Post Γ 88 [(0, zR 128), (1, zI v1), (2, zI v2), (3, zI v3)] [zI w0] h := by
  refine z_istore_n (pc := 88) (ls' := [(3, _), (0, _), (1, _), (2, _)]) dX7_go_88 rfl (by decide) rfl ?_
  refine z_iload_n (pc := 89) (n := 0) dX7_go_89 rfl rfl ?_
  refine z_if_eq (pc := 90) (tgt := 19) dX7_go_90 (by decide) (fun c => ?_) (fun c => ?_)
  · replace Q := Q.1 c
    exact z_sub (ks := [1, 2, 3, 0]) rfl Q
  · replace Q := Q.2 c
    refine z_aload_n (pc := 93) (n := 1) dX7_go_93 rfl rfl ?_
    refine z_bipush (pc := 94) (a := 44) dX7_go_94 rfl ?_
    refine z_bipush (pc := 96) (a := 44) dX7_go_96 rfl ?_
    obtain ⟨d1, P2, e5, s6, Q⟩ := Q
    refine z_callV (pc := 98) (M := mX7_sign) (as := [_, _]) (st := []) s6 zo_Model rfl wi_X7_sign wm_X7_sign ⟨by omega, by decide⟩ wl_X7_158 dX7_go_98 rfl (Nat.le_of_ble_eq_true rfl) rfl ?_
    intro r3 h4 s6
    obtain ⟨x7, rfl, Q⟩ := Q _ _ s6
    refine z_istore (pc := 101) (ls' := [(4, _), (3, _), (0, _), (1, _), (2, _)]) dX7_go_101 (by decide) rfl ?_
    refine z_aload_n (pc := 103) (n := 2) dX7_go_103 rfl rfl ?_
    refine z_getI (pc := 104) zo_Model rfl inT7 (i := 16) (by decide) wf_X7_154 rfl (fun _ _ => rfl) dX7_go_104 ?_
    refine z_if_ne (pc := 107) (tgt := 114) dX7_go_107 (by decide) (fun c => ?_) (fun c => ?_)
    · replace Q := Q.1 c
      refine z_iconst (pc := 114) (a := 0) dX7_go_114 rfl ?_
      refine z_istore_n (pc := 115) (ls' := [(3, _), (4, _), (0, _), (1, _), (2, _)]) dX7_go_115 rfl (by decide) rfl ?_
      refine z_goto (pc := 116) (tgt := 19) dX7_go_116 (by decide) ?_
      exact z_sub (ks := [2, 3, 4, 0]) rfl Q
    · replace Q := Q.2 c
      refine z_iconst (pc := 110) (a := 1) dX7_go_110 rfl ?_
      refine z_goto (pc := 111) (tgt := 115) dX7_go_111 (by decide) ?_
      refine z_istore_n (pc := 115) (ls' := [(3, _), (4, _), (0, _), (1, _), (2, _)]) dX7_go_115 rfl (by decide) rfl ?_
      refine z_goto (pc := 116) (tgt := 19) dX7_go_116 (by decide) ?_
      exact z_sub (ks := [2, 3, 4, 0]) rfl Q
set_option maxHeartbeats 4000000 in
set_option maxRecDepth 100000 in
theorem k_X7_half_0 {d : Nat} {Post : Option zA → zH → Prop} {Γ : zCx} {h : zH} {a1 : Int} {a2 : Int} {a3 : Int}  (hd : 3 ≤ d) (Q :
 ((¬ (0 ≤ a1 ∧ a1 ≤ 5) →
  Post (some (zI (-1))) h) ∧
 (0 ≤ a1 ∧ a1 ≤ 5 →
  ((¬ (0 ≤ a2 ∧ a2 ≤ 5) →
   Post (some (zI (-1))) h) ∧
  (0 ≤ a2 ∧ a2 ≤ 5 →
   ((0 ≤ a3 ∧ a3 ≤ 5 →
    ((¬ a1 = a2 →
     (0 ≤ a1 ∧ a1 ≤ 5) ∧
     (0 ≤ a3 ∧ a3 ≤ 5) ∧
     0 ≤ (6 * a3 + a1) ∧ (6 * a3 + a1) < 336 ∧
     ∀ x5 : Int, x5 = (zdiv (h 129 (6 * a3 + a1).toNat) 2) →
     ((x5 < 1 →
      Post (some (zI (-4))) h) ∧
     (¬ x5 < 1 →
      (0 ≤ a1 ∧ a1 ≤ 5) ∧
      (0 ≤ a3 ∧ a3 ≤ 5) ∧
      0 ≤ (36 + 6 * a3 + a1) ∧ (36 + 6 * a3 + a1) < 336 ∧
      ((¬ (h 129 (36 + 6 * a3 + a1).toNat) = 1 →
       ∃ (d10 : Nat) (P11 : Option zA → zH → Prop), d10 + 1 ≤ d ∧ zSp d10 mX7_isFull [zR 128] h P11 ∧ ∀ r12 h13, P11 r12 h13 →
       ∃ x16 : Int, r12 = some (zI x16) ∧
       ((x16 = 0 →
        ∃ (d17 : Nat) (P18 : Option zA → zH → Prop), d17 + 1 ≤ d ∧ zSp d17 mX7_know [zR 128] h13 P18 ∧ ∀ r19 h20, P18 r19 h20 →
        r19 = none ∧
        ∃ (d23 : Nat) (P24 : Option zA → zH → Prop), d23 + 1 ≤ d ∧ zSp d23 mX7_lends [zR 128, zI a1, zI a2, zI a3, zI x5] h20 P24 ∧ ∀ r25 h26, P24 r25 h26 →
        ∃ x29 : Int, r25 = some (zI x29) ∧
        Post (some (zI x5)) h26) ∧
       (¬ x16 = 0 →
        Post (some (zI (-3))) h13))) ∧
      ((h 129 (36 + 6 * a3 + a1).toNat) = 1 →
       Post (some (zI (-4))) h))))) ∧
    (a1 = a2 →
     Post (some (zI (-2))) h))) ∧
   (¬ (0 ≤ a3 ∧ a3 ≤ 5) →
    Post (some (zI (-1))) h))))))) :
    zV RX7 cX7_half 6 (some .int) d Post Γ 0 [(0, zR 128), (1, zI a1), (2, zI a2), (3, zI a3)] [] h := by
  refine z_iload_n (pc := 0) (n := 1) dX7_half_0 rfl rfl ?_
  refine z_callS (pc := 1) (M := mX7_isAgent) (as := [_]) (st := []) c_X7_isAgent wt_X7_isAgent wm_X7_isAgent ⟨by omega, by decide⟩ wl_X7_59 dX7_half_1 rfl (Nat.le_of_ble_eq_true rfl) rfl ?_
  rintro _ _ ⟨rfl, rfl⟩
  refine z_ifb_eq (pc := 4) (tgt := 21) dX7_half_4 (by decide) (fun c => ?_) (fun c => ?_)
  · replace Q := Q.1 c
    refine z_iconst (pc := 21) (a := -1) dX7_half_21 rfl ?_
    exact z_iret (pc := 22) rfl dX7_half_22 Q
  · replace Q := Q.2 c
    refine z_iload_n (pc := 7) (n := 2) dX7_half_7 rfl rfl ?_
    refine z_callS (pc := 8) (M := mX7_isAgent) (as := [_]) (st := []) c_X7_isAgent wt_X7_isAgent wm_X7_isAgent ⟨by omega, by decide⟩ wl_X7_59 dX7_half_8 rfl (Nat.le_of_ble_eq_true rfl) rfl ?_
    rintro _ _ ⟨rfl, rfl⟩
    refine z_ifb_eq (pc := 11) (tgt := 21) dX7_half_11 (by decide) (fun c => ?_) (fun c => ?_)
    · replace Q := Q.1 c
      refine z_iconst (pc := 21) (a := -1) dX7_half_21 rfl ?_
      exact z_iret (pc := 22) rfl dX7_half_22 Q
    · replace Q := Q.2 c
      refine z_iload_n (pc := 14) (n := 3) dX7_half_14 rfl rfl ?_
      refine z_callS (pc := 15) (M := mX7_isCell) (as := [_]) (st := []) c_X7_isCell wt_X7_isCell wm_X7_isCell ⟨by omega, by decide⟩ wl_X7_63 dX7_half_15 rfl (Nat.le_of_ble_eq_true rfl) rfl ?_
      rintro _ _ ⟨rfl, rfl⟩
      refine z_ifb_ne (pc := 18) (tgt := 23) dX7_half_18 (by decide) (fun c => ?_) (fun c => ?_)
      · replace Q := Q.1 c
        refine z_iload_n (pc := 23) (n := 1) dX7_half_23 rfl rfl ?_
        refine z_iload_n (pc := 24) (n := 2) dX7_half_24 rfl rfl ?_
        refine z_icmp_ne (pc := 25) (tgt := 31) dX7_half_25 (by decide) (fun c => ?_) (fun c => ?_)
        · replace Q := Q.1 c
          refine z_aload_n (pc := 31) (n := 0) dX7_half_31 rfl rfl ?_
          refine z_getR (pc := 32) (q2 := 129) zo_Model rfl inT7 (i := 0) (by decide) wf_X7_7 rfl (fun _ _ => rfl) dX7_half_32 ?_
          refine z_iload_n (pc := 35) (n := 1) dX7_half_35 rfl rfl ?_
          refine z_iload_n (pc := 36) (n := 3) dX7_half_36 rfl rfl ?_
          obtain ⟨c1, Q⟩ := Q
          obtain ⟨c2, Q⟩ := Q
          refine z_callS (pc := 37) (M := mX7_held) (as := [_, _]) (st := [_]) (c_X7_held c1 c2) wt_X7_held wm_X7_held ⟨by omega, by decide⟩ wl_X7_51 dX7_half_37 rfl (Nat.le_of_ble_eq_true rfl) rfl ?_
          rintro _ _ ⟨rfl, rfl⟩
          obtain ⟨c3, c4, Q⟩ := Q
          refine z_iald (pc := 40) za_ms c3 c4 dX7_half_40 ?_
          refine z_iconst (pc := 41) (a := 2) dX7_half_41 rfl ?_
          refine z_idiv (pc := 42) dX7_half_42 (by decide) ?_
          refine z_top (fun x5 ex5 => ?_)
          replace Q := Q x5 ex5
          refine z_istore (pc := 43) (ls' := [(4, _), (0, _), (1, _), (2, _), (3, _)]) dX7_half_43 (by decide) rfl ?_
          refine z_iload (pc := 45) (n := 0) dX7_half_45 rfl ?_
          refine z_iconst (pc := 47) (a := 1) dX7_half_47 rfl ?_
          refine z_icmp_lt (pc := 48) (tgt := 65) dX7_half_48 (by decide) (fun c => ?_) (fun c => ?_)
          · replace Q := Q.1 c
            refine z_bipush (pc := 65) (a := -4) dX7_half_65 rfl ?_
            exact z_iret (pc := 67) rfl dX7_half_67 Q
          · replace Q := Q.2 c
            refine z_aload_n (pc := 51) (n := 1) dX7_half_51 rfl rfl ?_
            refine z_getR (pc := 52) (q2 := 129) zo_Model rfl inT7 (i := 0) (by decide) wf_X7_7 rfl (fun _ _ => rfl) dX7_half_52 ?_
            refine z_iload_n (pc := 55) (n := 2) dX7_half_55 rfl rfl ?_
            refine z_iload_n (pc := 56) (n := 4) dX7_half_56 rfl rfl ?_
            obtain ⟨c6, Q⟩ := Q
            obtain ⟨c7, Q⟩ := Q
            refine z_callS (pc := 57) (M := mX7_holds) (as := [_, _]) (st := [_]) (c_X7_holds c6 c7) wt_X7_holds wm_X7_holds ⟨by omega, by decide⟩ wl_X7_72 dX7_half_57 rfl (Nat.le_of_ble_eq_true rfl) rfl ?_
            rintro _ _ ⟨rfl, rfl⟩
            obtain ⟨c8, c9, Q⟩ := Q
            refine z_iald (pc := 60) za_ms c8 c9 dX7_half_60 ?_
            refine z_iconst (pc := 61) (a := 1) dX7_half_61 rfl ?_
            refine z_icmp_ne (pc := 62) (tgt := 68) dX7_half_62 (by decide) (fun c => ?_) (fun c => ?_)
            · replace Q := Q.1 c
              refine z_aload_n (pc := 68) (n := 1) dX7_half_68 rfl rfl ?_
              obtain ⟨d10, P11, e14, s15, Q⟩ := Q
              refine z_callV (pc := 69) (M := mX7_isFull) (as := []) (st := []) s15 zo_Model rfl wi_X7_isFull wm_X7_isFull ⟨by omega, by decide⟩ wl_X7_102 dX7_half_69 rfl (Nat.le_of_ble_eq_true rfl) rfl ?_
              intro r12 h13 s15
              obtain ⟨x16, rfl, Q⟩ := Q _ _ s15
              refine z_if_eq (pc := 72) (tgt := 78) dX7_half_72 (by decide) (fun c => ?_) (fun c => ?_)
              · replace Q := Q.1 c
                refine z_aload_n (pc := 78) (n := 1) dX7_half_78 rfl rfl ?_
                obtain ⟨d17, P18, e21, s22, Q⟩ := Q
                refine z_callV (pc := 79) (M := mX7_know) (as := []) (st := []) s22 zo_Model rfl wi_X7_know wm_X7_know ⟨by omega, by decide⟩ wl_X7_114 dX7_half_79 rfl (Nat.le_of_ble_eq_true rfl) rfl ?_
                intro r19 h20 s22
                obtain ⟨rfl, Q⟩ := Q _ _ s22
                refine z_aload_n (pc := 82) (n := 1) dX7_half_82 rfl rfl ?_
                refine z_iload_n (pc := 83) (n := 2) dX7_half_83 rfl rfl ?_
                refine z_iload_n (pc := 84) (n := 3) dX7_half_84 rfl rfl ?_
                refine z_iload_n (pc := 85) (n := 4) dX7_half_85 rfl rfl ?_
                refine z_iload (pc := 86) (n := 0) dX7_half_86 rfl ?_
                obtain ⟨d23, P24, e27, s28, Q⟩ := Q
                refine z_callV (pc := 88) (M := mX7_lends) (as := [_, _, _, _]) (st := []) s28 zo_Model rfl wi_X7_lends wm_X7_lends ⟨by omega, by decide⟩ wl_X7_117 dX7_half_88 rfl (Nat.le_of_ble_eq_true rfl) rfl ?_
                intro r25 h26 s28
                obtain ⟨x29, rfl, Q⟩ := Q _ _ s28
                refine z_istore (pc := 91) (ls' := [(5, _), (4, _), (0, _), (1, _), (2, _), (3, _)]) dX7_half_91 (by decide) rfl ?_
                refine z_iload (pc := 93) (n := 1) dX7_half_93 rfl ?_
                exact z_iret (pc := 95) rfl dX7_half_95 Q
              · replace Q := Q.2 c
                refine z_bipush (pc := 75) (a := -3) dX7_half_75 rfl ?_
                exact z_iret (pc := 77) rfl dX7_half_77 Q
            · replace Q := Q.2 c
              refine z_bipush (pc := 65) (a := -4) dX7_half_65 rfl ?_
              exact z_iret (pc := 67) rfl dX7_half_67 Q
        · replace Q := Q.2 c
          refine z_bipush (pc := 28) (a := -2) dX7_half_28 rfl ?_
          exact z_iret (pc := 30) rfl dX7_half_30 Q
      · replace Q := Q.2 c
        refine z_iconst (pc := 21) (a := -1) dX7_half_21 rfl ?_
        exact z_iret (pc := 22) rfl dX7_half_22 Q
