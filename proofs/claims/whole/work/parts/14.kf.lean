/-! walks of methods, from cut to cut (printed by wip/gen/genk.py) -/
set_option maxHeartbeats 4000000 in
set_option maxRecDepth 100000 in
theorem k_X7_putAside_0 {d : Nat} {Post : Option zA → zH → Prop} {Γ : zCx} {h : zH}   (hd : 1 ≤ d) (Q :
 zV RX7 cX7_putAside 2 none d Post Γ 2 [(0, zR 128), (1, zI 0)] [] h) :
    zV RX7 cX7_putAside 2 none d Post Γ 0 [(0, zR 128)] [] h := by
  refine z_iconst (pc := 0) (a := 0) dX7_putAside_0 rfl ?_
  refine z_istore_n (pc := 1) (ls' := [(1, _), (0, _)]) dX7_putAside_1 rfl (by decide) rfl ?_
  exact z_sub (ks := [1, 0]) rfl Q
set_option maxHeartbeats 4000000 in
set_option maxRecDepth 100000 in
theorem k_X7_putAside_2 {d : Nat} {Post : Option zA → zH → Prop} {Γ : zCx} {h : zH} {v1 : Int}  (hd : 1 ≤ d) (Q :
 ((336 ≤ v1 →
  Post none h) ∧
 (¬ 336 ≤ v1 →
  0 ≤ v1 ∧ v1 < 336 ∧
  0 ≤ v1 ∧ v1 < 336 ∧
  ∀ h5 : zH, h5 = zu h 130 v1.toNat (h 129 v1.toNat) →
  ∀ x6 : Int, x6 = zwr (v1 + 1) →
  zV RX7 cX7_putAside 2 none d Post Γ 2 [(0, zR 128), (1, zI x6)] [] h5))) :
    zV RX7 cX7_putAside 2 none d Post Γ 2 [(0, zR 128), (1, zI v1)] [] h := by
  refine z_iload_n (pc := 2) (n := 1) dX7_putAside_2 rfl rfl ?_
  refine z_sipush (pc := 3) (a := 336) dX7_putAside_3 rfl ?_
  refine z_icmp_ge (pc := 6) (tgt := 27) dX7_putAside_6 (by decide) (fun c => ?_) (fun c => ?_)
  · replace Q := Q.1 c
    exact z_vret (pc := 27) rfl dX7_putAside_27 Q
  · replace Q := Q.2 c
    refine z_aload_n (pc := 9) (n := 0) dX7_putAside_9 rfl rfl ?_
    refine z_getR (pc := 10) (q2 := 130) zo_Model rfl inT7 (i := 1) (by decide) wf_X7_13 rfl (fun _ _ => rfl) dX7_putAside_10 ?_
    refine z_iload_n (pc := 13) (n := 1) dX7_putAside_13 rfl rfl ?_
    refine z_aload_n (pc := 14) (n := 0) dX7_putAside_14 rfl rfl ?_
    refine z_getR (pc := 15) (q2 := 129) zo_Model rfl inT7 (i := 0) (by decide) wf_X7_7 rfl (fun _ _ => rfl) dX7_putAside_15 ?_
    refine z_iload_n (pc := 18) (n := 1) dX7_putAside_18 rfl rfl ?_
    obtain ⟨c1, c2, Q⟩ := Q
    refine z_iald (pc := 19) za_ms c1 c2 dX7_putAside_19 ?_
    obtain ⟨c3, c4, Q⟩ := Q
    refine z_iast (pc := 20) za_maside c3 c4 dX7_putAside_20 ?_
    refine z_heap (fun h5 eh5 => ?_)
    replace Q := Q h5 eh5
    refine z_iincg (pc := 21) (n := 1) (lf := fun y => [(1, zI y), (0, _)]) dX7_putAside_21 rfl (by decide) (fun _ => rfl) (fun x6 ex6 => ?_)
    replace Q := Q x6 ex6
    refine z_goto (pc := 24) (tgt := 2) dX7_putAside_24 (by decide) ?_
    exact z_sub (ks := [1, 0]) rfl Q
set_option maxHeartbeats 4000000 in
set_option maxRecDepth 100000 in
theorem k_X7_putBack_0 {d : Nat} {Post : Option zA → zH → Prop} {Γ : zCx} {h : zH}   (hd : 1 ≤ d) (Q :
 zV RX7 cX7_putBack 2 none d Post Γ 2 [(0, zR 128), (1, zI 0)] [] h) :
    zV RX7 cX7_putBack 2 none d Post Γ 0 [(0, zR 128)] [] h := by
  refine z_iconst (pc := 0) (a := 0) dX7_putBack_0 rfl ?_
  refine z_istore_n (pc := 1) (ls' := [(1, _), (0, _)]) dX7_putBack_1 rfl (by decide) rfl ?_
  exact z_sub (ks := [1, 0]) rfl Q
set_option maxHeartbeats 4000000 in
set_option maxRecDepth 100000 in
theorem k_X7_putBack_2 {d : Nat} {Post : Option zA → zH → Prop} {Γ : zCx} {h : zH} {v1 : Int}  (hd : 1 ≤ d) (Q :
 ((336 ≤ v1 →
  Post none h) ∧
 (¬ 336 ≤ v1 →
  0 ≤ v1 ∧ v1 < 336 ∧
  0 ≤ v1 ∧ v1 < 336 ∧
  ∀ h5 : zH, h5 = zu h 129 v1.toNat (h 130 v1.toNat) →
  ∀ x6 : Int, x6 = zwr (v1 + 1) →
  zV RX7 cX7_putBack 2 none d Post Γ 2 [(0, zR 128), (1, zI x6)] [] h5))) :
    zV RX7 cX7_putBack 2 none d Post Γ 2 [(0, zR 128), (1, zI v1)] [] h := by
  refine z_iload_n (pc := 2) (n := 1) dX7_putBack_2 rfl rfl ?_
  refine z_sipush (pc := 3) (a := 336) dX7_putBack_3 rfl ?_
  refine z_icmp_ge (pc := 6) (tgt := 27) dX7_putBack_6 (by decide) (fun c => ?_) (fun c => ?_)
  · replace Q := Q.1 c
    exact z_vret (pc := 27) rfl dX7_putBack_27 Q
  · replace Q := Q.2 c
    refine z_aload_n (pc := 9) (n := 0) dX7_putBack_9 rfl rfl ?_
    refine z_getR (pc := 10) (q2 := 129) zo_Model rfl inT7 (i := 0) (by decide) wf_X7_7 rfl (fun _ _ => rfl) dX7_putBack_10 ?_
    refine z_iload_n (pc := 13) (n := 1) dX7_putBack_13 rfl rfl ?_
    refine z_aload_n (pc := 14) (n := 0) dX7_putBack_14 rfl rfl ?_
    refine z_getR (pc := 15) (q2 := 130) zo_Model rfl inT7 (i := 1) (by decide) wf_X7_13 rfl (fun _ _ => rfl) dX7_putBack_15 ?_
    refine z_iload_n (pc := 18) (n := 1) dX7_putBack_18 rfl rfl ?_
    obtain ⟨c1, c2, Q⟩ := Q
    refine z_iald (pc := 19) za_maside c1 c2 dX7_putBack_19 ?_
    obtain ⟨c3, c4, Q⟩ := Q
    refine z_iast (pc := 20) za_ms c3 c4 dX7_putBack_20 ?_
    refine z_heap (fun h5 eh5 => ?_)
    replace Q := Q h5 eh5
    refine z_iincg (pc := 21) (n := 1) (lf := fun y => [(1, zI y), (0, _)]) dX7_putBack_21 rfl (by decide) (fun _ => rfl) (fun x6 ex6 => ?_)
    replace Q := Q x6 ex6
    refine z_goto (pc := 24) (tgt := 2) dX7_putBack_24 (by decide) ?_
    exact z_sub (ks := [1, 0]) rfl Q
set_option maxHeartbeats 4000000 in
set_option maxRecDepth 100000 in
theorem k_X7_read_0 {d : Nat} {Post : Option zA → zH → Prop} {Γ : zCx} {h : zH} {a1 : Int} {a2 : Int}  (hd : 4 ≤ d) (Q :
 (((0 ≤ a1 ∧ a1 ≤ 5) ∧ 0 ≤ a2 ∧ a2 ≤ 5 →
  (0 ≤ a1 ∧ a1 ≤ 5) ∧
  (0 ≤ a2 ∧ a2 ≤ 5) ∧
  0 ≤ (6 * a2 + a1) ∧ (6 * a2 + a1) < 336 ∧
  ((¬ (h 129 (6 * a2 + a1).toNat) = 0 →
   0 ≤ (zwr (114 + a2)) ∧ (zwr (114 + a2)) < 336 ∧
   Post (some (zI (h 129 (zwr (114 + a2)).toNat))) h) ∧
  ((h 129 (6 * a2 + a1).toNat) = 0 →
   Post (some (zI (-4))) h))) ∧
 (¬ ((0 ≤ a1 ∧ a1 ≤ 5) ∧ 0 ≤ a2 ∧ a2 ≤ 5) →
  Post (some (zI (-1))) h))) :
    zV RX7 cX7_read 3 (some .int) d Post Γ 0 [(0, zR 128), (1, zI a1), (2, zI a2)] [] h := by
  refine z_iload_n (pc := 0) (n := 1) dX7_read_0 rfl rfl ?_
  refine z_iload_n (pc := 1) (n := 2) dX7_read_1 rfl rfl ?_
  refine z_callS (pc := 2) (M := mX7_areBoth) (as := [_, _]) (st := []) c_X7_areBoth wt_X7_areBoth wm_X7_areBoth ⟨by omega, by decide⟩ wl_X7_106 dX7_read_2 rfl (Nat.le_of_ble_eq_true rfl) rfl ?_
  rintro _ _ ⟨rfl, rfl⟩
  refine z_ifb_ne (pc := 5) (tgt := 10) dX7_read_5 (by decide) (fun c => ?_) (fun c => ?_)
  · replace Q := Q.1 c
    refine z_aload_n (pc := 10) (n := 0) dX7_read_10 rfl rfl ?_
    refine z_getR (pc := 11) (q2 := 129) zo_Model rfl inT7 (i := 0) (by decide) wf_X7_7 rfl (fun _ _ => rfl) dX7_read_11 ?_
    refine z_iload_n (pc := 14) (n := 1) dX7_read_14 rfl rfl ?_
    refine z_iload_n (pc := 15) (n := 2) dX7_read_15 rfl rfl ?_
    obtain ⟨c1, Q⟩ := Q
    obtain ⟨c2, Q⟩ := Q
    refine z_callS (pc := 16) (M := mX7_held) (as := [_, _]) (st := [_]) (c_X7_held c1 c2) wt_X7_held wm_X7_held ⟨by omega, by decide⟩ wl_X7_51 dX7_read_16 rfl (Nat.le_of_ble_eq_true rfl) rfl ?_
    rintro _ _ ⟨rfl, rfl⟩
    obtain ⟨c3, c4, Q⟩ := Q
    refine z_iald (pc := 19) za_ms c3 c4 dX7_read_19 ?_
    refine z_if_ne (pc := 20) (tgt := 28) dX7_read_20 (by decide) (fun c => ?_) (fun c => ?_)
    · replace Q := Q.1 c
      refine z_aload_n (pc := 28) (n := 0) dX7_read_28 rfl rfl ?_
      refine z_getR (pc := 29) (q2 := 129) zo_Model rfl inT7 (i := 0) (by decide) wf_X7_7 rfl (fun _ _ => rfl) dX7_read_29 ?_
      refine z_bipush (pc := 32) (a := 114) dX7_read_32 rfl ?_
      refine z_iload_n (pc := 34) (n := 2) dX7_read_34 rfl rfl ?_
      refine z_iadd (pc := 35) dX7_read_35 ?_
      obtain ⟨c5, c6, Q⟩ := Q
      refine z_iald (pc := 36) za_ms c5 c6 dX7_read_36 ?_
      exact z_iret (pc := 37) rfl dX7_read_37 Q
    · replace Q := Q.2 c
      refine z_bipush (pc := 23) (a := -4) dX7_read_23 rfl ?_
      refine z_goto (pc := 25) (tgt := 37) dX7_read_25 (by decide) ?_
      exact z_iret (pc := 37) rfl dX7_read_37 Q
  · replace Q := Q.2 c
    refine z_iconst (pc := 8) (a := -1) dX7_read_8 rfl ?_
    exact z_iret (pc := 9) rfl dX7_read_9 Q
set_option maxHeartbeats 4000000 in
set_option maxRecDepth 100000 in
theorem k_X7_reason_0 {d : Nat} {Post : Option zA → zH → Prop} {Γ : zCx} {h : zH} {a1 : Int} {a2 : Int}  (hd : 4 ≤ d) (Q :
 (((0 ≤ a1 ∧ a1 ≤ 5) ∧ 0 ≤ a2 ∧ a2 ≤ 5 →
  ∃ (d1 : Nat) (P2 : Option zA → zH → Prop), d1 + 1 ≤ d ∧ zSp d1 mX7_wouldGather [zR 128, zI a1, zI a2] h P2 ∧ ∀ r3 h4, P2 r3 h4 →
  ∃ x7 : Int, r3 = some (zI x7) ∧
  ((¬ x7 = 64 →
   ∃ (d8 : Nat) (P9 : Option zA → zH → Prop), d8 + 1 ≤ d ∧ zSp d8 mX7_agentsOf [zR 128, zI a2, zI 8] h4 P9 ∧ ∀ r10 h11, P9 r10 h11 →
   ∃ x14 : Int, r10 = some (zI x14) ∧
   ((x14 ≤ 0 →
    Post (some (zI 2)) h11) ∧
   (¬ x14 ≤ 0 →
    Post (some (zI 1)) h11))) ∧
  (x7 = 64 →
   Post (some (zI 0)) h4))) ∧
 (¬ ((0 ≤ a1 ∧ a1 ≤ 5) ∧ 0 ≤ a2 ∧ a2 ≤ 5) →
  Post (some (zI (-1))) h))) :
    zV RX7 cX7_reason 3 (some .int) d Post Γ 0 [(0, zR 128), (1, zI a1), (2, zI a2)] [] h := by
  refine z_iload_n (pc := 0) (n := 1) dX7_reason_0 rfl rfl ?_
  refine z_iload_n (pc := 1) (n := 2) dX7_reason_1 rfl rfl ?_
  refine z_callS (pc := 2) (M := mX7_areBoth) (as := [_, _]) (st := []) c_X7_areBoth wt_X7_areBoth wm_X7_areBoth ⟨by omega, by decide⟩ wl_X7_106 dX7_reason_2 rfl (Nat.le_of_ble_eq_true rfl) rfl ?_
  rintro _ _ ⟨rfl, rfl⟩
  refine z_ifb_ne (pc := 5) (tgt := 10) dX7_reason_5 (by decide) (fun c => ?_) (fun c => ?_)
  · replace Q := Q.1 c
    refine z_aload_n (pc := 10) (n := 0) dX7_reason_10 rfl rfl ?_
    refine z_iload_n (pc := 11) (n := 1) dX7_reason_11 rfl rfl ?_
    refine z_iload_n (pc := 12) (n := 2) dX7_reason_12 rfl rfl ?_
    obtain ⟨d1, P2, e5, s6, Q⟩ := Q
    refine z_callV (pc := 13) (M := mX7_wouldGather) (as := [_, _]) (st := []) s6 zo_Model rfl wi_X7_wouldGather wm_X7_wouldGather ⟨by omega, by decide⟩ wl_X7_193 dX7_reason_13 rfl (Nat.le_of_ble_eq_true rfl) rfl ?_
    intro r3 h4 s6
    obtain ⟨x7, rfl, Q⟩ := Q _ _ s6
    refine z_bipush (pc := 16) (a := 64) dX7_reason_16 rfl ?_
    refine z_icmp_ne (pc := 18) (tgt := 25) dX7_reason_18 (by decide) (fun c => ?_) (fun c => ?_)
    · replace Q := Q.1 c
      refine z_aload_n (pc := 25) (n := 0) dX7_reason_25 rfl rfl ?_
      refine z_iload_n (pc := 26) (n := 2) dX7_reason_26 rfl rfl ?_
      refine z_bipush (pc := 27) (a := 8) dX7_reason_27 rfl ?_
      obtain ⟨d8, P9, e12, s13, Q⟩ := Q
      refine z_callV (pc := 29) (M := mX7_agentsOf) (as := [_, _]) (st := []) s13 zo_Model rfl wi_X7_agentsOf wm_X7_agentsOf ⟨by omega, by decide⟩ wl_X7_184 dX7_reason_29 rfl (Nat.le_of_ble_eq_true rfl) rfl ?_
      intro r10 h11 s13
      obtain ⟨x14, rfl, Q⟩ := Q _ _ s13
      refine z_if_le (pc := 32) (tgt := 39) dX7_reason_32 (by decide) (fun c => ?_) (fun c => ?_)
      · replace Q := Q.1 c
        refine z_iconst (pc := 39) (a := 2) dX7_reason_39 rfl ?_
        exact z_iret (pc := 40) rfl dX7_reason_40 Q
      · replace Q := Q.2 c
        refine z_iconst (pc := 35) (a := 1) dX7_reason_35 rfl ?_
        refine z_goto (pc := 36) (tgt := 40) dX7_reason_36 (by decide) ?_
        exact z_iret (pc := 40) rfl dX7_reason_40 Q
    · replace Q := Q.2 c
      refine z_iconst (pc := 21) (a := 0) dX7_reason_21 rfl ?_
      refine z_goto (pc := 22) (tgt := 40) dX7_reason_22 (by decide) ?_
      exact z_iret (pc := 40) rfl dX7_reason_40 Q
  · replace Q := Q.2 c
    refine z_iconst (pc := 8) (a := -1) dX7_reason_8 rfl ?_
    exact z_iret (pc := 9) rfl dX7_reason_9 Q
set_option maxHeartbeats 4000000 in
set_option maxRecDepth 100000 in
theorem k_X7_restore_0 {d : Nat} {Post : Option zA → zH → Prop} {Γ : zCx} {h : zH}   (hd : 1 ≤ d) (Q :
 ((¬ (h 128 6) = 0 →
  ∃ (d1 : Nat) (P2 : Option zA → zH → Prop), d1 + 1 ≤ d ∧ zSp d1 mX7_know [zR 128] h P2 ∧ ∀ r3 h4, P2 r3 h4 →
  r3 = none ∧
  zV RX7 cX7_restore 2 (some .int) d Post Γ 16 [(0, zR 128), (1, zI 0)] [] h4) ∧
 ((h 128 6) = 0 →
  Post (some (zI (-5))) h))) :
    zV RX7 cX7_restore 2 (some .int) d Post Γ 0 [(0, zR 128)] [] h := by
  refine z_aload_n (pc := 0) (n := 0) dX7_restore_0 rfl rfl ?_
  refine z_getI (pc := 1) zo_Model rfl inT7 (i := 6) (by decide) wf_X7_181 rfl (fun _ _ => rfl) dX7_restore_1 ?_
  refine z_if_ne (pc := 4) (tgt := 10) dX7_restore_4 (by decide) (fun c => ?_) (fun c => ?_)
  · replace Q := Q.1 c
    refine z_aload_n (pc := 10) (n := 0) dX7_restore_10 rfl rfl ?_
    obtain ⟨d1, P2, e5, s6, Q⟩ := Q
    refine z_callV (pc := 11) (M := mX7_know) (as := []) (st := []) s6 zo_Model rfl wi_X7_know wm_X7_know ⟨by omega, by decide⟩ wl_X7_114 dX7_restore_11 rfl (Nat.le_of_ble_eq_true rfl) rfl ?_
    intro r3 h4 s6
    obtain ⟨rfl, Q⟩ := Q _ _ s6
    refine z_iconst (pc := 14) (a := 0) dX7_restore_14 rfl ?_
    refine z_istore_n (pc := 15) (ls' := [(1, _), (0, _)]) dX7_restore_15 rfl (by decide) rfl ?_
    exact z_sub (ks := [1, 0]) rfl Q
  · replace Q := Q.2 c
    refine z_bipush (pc := 7) (a := -5) dX7_restore_7 rfl ?_
    exact z_iret (pc := 9) rfl dX7_restore_9 Q
set_option maxHeartbeats 4000000 in
set_option maxRecDepth 100000 in
theorem k_X7_restore_16 {d : Nat} {Post : Option zA → zH → Prop} {Γ : zCx} {h : zH} {v1 : Int}  (hd : 1 ≤ d) (Q :
 ((336 ≤ v1 →
  Post (some (zI (h 129 132))) h) ∧
 (¬ 336 ≤ v1 →
  0 ≤ v1 ∧ v1 < 336 ∧
  0 ≤ v1 ∧ v1 < 336 ∧
  ∀ h5 : zH, h5 = zu h 129 v1.toNat (h 133 v1.toNat) →
  ∀ x6 : Int, x6 = zwr (v1 + 1) →
  zV RX7 cX7_restore 2 (some .int) d Post Γ 16 [(0, zR 128), (1, zI x6)] [] h5))) :
    zV RX7 cX7_restore 2 (some .int) d Post Γ 16 [(0, zR 128), (1, zI v1)] [] h := by
  refine z_iload_n (pc := 16) (n := 1) dX7_restore_16 rfl rfl ?_
  refine z_sipush (pc := 17) (a := 336) dX7_restore_17 rfl ?_
  refine z_icmp_ge (pc := 20) (tgt := 41) dX7_restore_20 (by decide) (fun c => ?_) (fun c => ?_)
  · replace Q := Q.1 c
    refine z_aload_n (pc := 41) (n := 0) dX7_restore_41 rfl rfl ?_
    refine z_getR (pc := 42) (q2 := 129) zo_Model rfl inT7 (i := 0) (by decide) wf_X7_7 rfl (fun _ _ => rfl) dX7_restore_42 ?_
    refine z_sipush (pc := 45) (a := 132) dX7_restore_45 rfl ?_
    refine z_iald (pc := 48) za_ms (by decide) (by decide) dX7_restore_48 ?_
    exact z_iret (pc := 49) rfl dX7_restore_49 Q
  · replace Q := Q.2 c
    refine z_aload_n (pc := 23) (n := 0) dX7_restore_23 rfl rfl ?_
    refine z_getR (pc := 24) (q2 := 129) zo_Model rfl inT7 (i := 0) (by decide) wf_X7_7 rfl (fun _ _ => rfl) dX7_restore_24 ?_
    refine z_iload_n (pc := 27) (n := 1) dX7_restore_27 rfl rfl ?_
    refine z_aload_n (pc := 28) (n := 0) dX7_restore_28 rfl rfl ?_
    refine z_getR (pc := 29) (q2 := 133) zo_Model rfl inT7 (i := 5) (by decide) wf_X7_22 rfl (fun _ _ => rfl) dX7_restore_29 ?_
    refine z_iload_n (pc := 32) (n := 1) dX7_restore_32 rfl rfl ?_
    obtain ⟨c1, c2, Q⟩ := Q
    refine z_iald (pc := 33) za_mkept c1 c2 dX7_restore_33 ?_
    obtain ⟨c3, c4, Q⟩ := Q
    refine z_iast (pc := 34) za_ms c3 c4 dX7_restore_34 ?_
    refine z_heap (fun h5 eh5 => ?_)
    replace Q := Q h5 eh5
    refine z_iincg (pc := 35) (n := 1) (lf := fun y => [(1, zI y), (0, _)]) dX7_restore_35 rfl (by decide) (fun _ => rfl) (fun x6 ex6 => ?_)
    replace Q := Q x6 ex6
    refine z_goto (pc := 38) (tgt := 16) dX7_restore_38 (by decide) ?_
    exact z_sub (ks := [1, 0]) rfl Q
set_option maxHeartbeats 4000000 in
set_option maxRecDepth 100000 in
theorem k_X7_serve_0 {d : Nat} {Post : Option zA → zH → Prop} {Γ : zCx} {h : zH} {a1 : Int}  (hd : 3 ≤ d) (Q :
 ((0 ≤ a1 ∧ a1 ≤ 5 →
  0 ≤ (zwr (108 + a1)) ∧ (zwr (108 + a1)) < 336 ∧
  ((¬ (h 129 (zwr (108 + a1)).toNat) = 0 →
   ∃ (d3 : Nat) (P4 : Option zA → zH → Prop), d3 + 1 ≤ d ∧ zSp d3 mX7_putAside [zR 128] h P4 ∧ ∀ r5 h6, P4 r5 h6 →
   r5 = none ∧
   ∃ (d9 : Nat) (P10 : Option zA → zH → Prop), d9 + 1 ≤ d ∧ zSp d9 mX7_serves [zR 128, zI a1] h6 P10 ∧ ∀ r11 h12, P10 r11 h12 →
   ∃ x15 : Int, r11 = some (zI x15) ∧
   ∃ (d16 : Nat) (P17 : Option zA → zH → Prop), d16 + 1 ≤ d ∧ zSp d16 mX7_putBack [zR 128] h12 P17 ∧ ∀ r18 h19, P17 r18 h19 →
   r18 = none ∧
   ((0 ≤ x15 →
    ∃ (d22 : Nat) (P23 : Option zA → zH → Prop), d22 + 1 ≤ d ∧ zSp d22 mX7_know [zR 128] h19 P23 ∧ ∀ r24 h25, P23 r24 h25 →
    r24 = none ∧
    ∃ (d28 : Nat) (P29 : Option zA → zH → Prop), d28 + 1 ≤ d ∧ zSp d28 mX7_serves [zR 128, zI a1] h25 P29 ∧ ∀ r30 h31, P29 r30 h31 →
    ∃ x34 : Int, r30 = some (zI x34) ∧
    Post (some (zI x34)) h31) ∧
   (¬ 0 ≤ x15 →
    Post (some (zI x15)) h19))) ∧
  ((h 129 (zwr (108 + a1)).toNat) = 0 →
   Post (some (zI (-4))) h))) ∧
 (¬ (0 ≤ a1 ∧ a1 ≤ 5) →
  Post (some (zI (-1))) h))) :
    zV RX7 cX7_serve 3 (some .int) d Post Γ 0 [(0, zR 128), (1, zI a1)] [] h := by
  refine z_iload_n (pc := 0) (n := 1) dX7_serve_0 rfl rfl ?_
  refine z_callS (pc := 1) (M := mX7_isCell) (as := [_]) (st := []) c_X7_isCell wt_X7_isCell wm_X7_isCell ⟨by omega, by decide⟩ wl_X7_63 dX7_serve_1 rfl (Nat.le_of_ble_eq_true rfl) rfl ?_
  rintro _ _ ⟨rfl, rfl⟩
  refine z_ifb_ne (pc := 4) (tgt := 9) dX7_serve_4 (by decide) (fun c => ?_) (fun c => ?_)
  · replace Q := Q.1 c
    refine z_aload_n (pc := 9) (n := 0) dX7_serve_9 rfl rfl ?_
    refine z_getR (pc := 10) (q2 := 129) zo_Model rfl inT7 (i := 0) (by decide) wf_X7_7 rfl (fun _ _ => rfl) dX7_serve_10 ?_
    refine z_bipush (pc := 13) (a := 108) dX7_serve_13 rfl ?_
    refine z_iload_n (pc := 15) (n := 1) dX7_serve_15 rfl rfl ?_
    refine z_iadd (pc := 16) dX7_serve_16 ?_
    obtain ⟨c1, c2, Q⟩ := Q
    refine z_iald (pc := 17) za_ms c1 c2 dX7_serve_17 ?_
    refine z_if_ne (pc := 18) (tgt := 24) dX7_serve_18 (by decide) (fun c => ?_) (fun c => ?_)
    · replace Q := Q.1 c
      refine z_aload_n (pc := 24) (n := 0) dX7_serve_24 rfl rfl ?_
      obtain ⟨d3, P4, e7, s8, Q⟩ := Q
      refine z_callV (pc := 25) (M := mX7_putAside) (as := []) (st := []) s8 zo_Model rfl wi_X7_putAside wm_X7_putAside ⟨by omega, by decide⟩ wl_X7_123 dX7_serve_25 rfl (Nat.le_of_ble_eq_true rfl) rfl ?_
      intro r5 h6 s8
      obtain ⟨rfl, Q⟩ := Q _ _ s8
      refine z_aload_n (pc := 28) (n := 0) dX7_serve_28 rfl rfl ?_
      refine z_iload_n (pc := 29) (n := 1) dX7_serve_29 rfl rfl ?_
      obtain ⟨d9, P10, e13, s14, Q⟩ := Q
      refine z_callV (pc := 30) (M := mX7_serves) (as := [_]) (st := []) s14 zo_Model rfl wi_X7_serves wm_X7_serves ⟨by omega, by decide⟩ wl_X7_142 dX7_serve_30 rfl (Nat.le_of_ble_eq_true rfl) rfl ?_
      intro r11 h12 s14
      obtain ⟨x15, rfl, Q⟩ := Q _ _ s14
      refine z_istore_n (pc := 33) (ls' := [(2, _), (0, _), (1, _)]) dX7_serve_33 rfl (by decide) rfl ?_
      refine z_aload_n (pc := 34) (n := 1) dX7_serve_34 rfl rfl ?_
      obtain ⟨d16, P17, e20, s21, Q⟩ := Q
      refine z_callV (pc := 35) (M := mX7_putBack) (as := []) (st := []) s21 zo_Model rfl wi_X7_putBack wm_X7_putBack ⟨by omega, by decide⟩ wl_X7_126 dX7_serve_35 rfl (Nat.le_of_ble_eq_true rfl) rfl ?_
      intro r18 h19 s21
      obtain ⟨rfl, Q⟩ := Q _ _ s21
      refine z_iload_n (pc := 38) (n := 0) dX7_serve_38 rfl rfl ?_
      refine z_if_ge (pc := 39) (tgt := 44) dX7_serve_39 (by decide) (fun c => ?_) (fun c => ?_)
      · replace Q := Q.1 c
        refine z_aload_n (pc := 44) (n := 1) dX7_serve_44 rfl rfl ?_
        obtain ⟨d22, P23, e26, s27, Q⟩ := Q
        refine z_callV (pc := 45) (M := mX7_know) (as := []) (st := []) s27 zo_Model rfl wi_X7_know wm_X7_know ⟨by omega, by decide⟩ wl_X7_114 dX7_serve_45 rfl (Nat.le_of_ble_eq_true rfl) rfl ?_
        intro r24 h25 s27
        obtain ⟨rfl, Q⟩ := Q _ _ s27
        refine z_aload_n (pc := 48) (n := 1) dX7_serve_48 rfl rfl ?_
        refine z_iload_n (pc := 49) (n := 2) dX7_serve_49 rfl rfl ?_
        obtain ⟨d28, P29, e32, s33, Q⟩ := Q
        refine z_callV (pc := 50) (M := mX7_serves) (as := [_]) (st := []) s33 zo_Model rfl wi_X7_serves wm_X7_serves ⟨by omega, by decide⟩ wl_X7_142 dX7_serve_50 rfl (Nat.le_of_ble_eq_true rfl) rfl ?_
        intro r30 h31 s33
        obtain ⟨x34, rfl, Q⟩ := Q _ _ s33
        exact z_iret (pc := 53) rfl dX7_serve_53 Q
      · replace Q := Q.2 c
        refine z_iload_n (pc := 42) (n := 0) dX7_serve_42 rfl rfl ?_
        exact z_iret (pc := 43) rfl dX7_serve_43 Q
    · replace Q := Q.2 c
      refine z_bipush (pc := 21) (a := -4) dX7_serve_21 rfl ?_
      exact z_iret (pc := 23) rfl dX7_serve_23 Q
  · replace Q := Q.2 c
    refine z_iconst (pc := 7) (a := -1) dX7_serve_7 rfl ?_
    exact z_iret (pc := 8) rfl dX7_serve_8 Q
set_option maxHeartbeats 4000000 in
set_option maxRecDepth 100000 in
theorem k_X7_serves_0 {d : Nat} {Post : Option zA → zH → Prop} {Γ : zCx} {h : zH} {a1 : Int}  (hd : 2 ≤ d) (Q :
 0 ≤ (zwr (126 + a1)) ∧ (zwr (126 + a1)) < 336 ∧
 ∀ x3 : Int, x3 = (h 129 (zwr (126 + a1)).toNat) →
 0 ≤ (zwr (72 + (zwr (6 * a1)))) ∧ (zwr (72 + (zwr (6 * a1)))) < 336 ∧
 ∀ x6 : Int, x6 = (h 129 (zwr (72 + (zwr (6 * a1)))).toNat) →
 ∃ (d7 : Nat) (P8 : Option zA → zH → Prop), d7 + 1 ≤ d ∧ zSp d7 mX7_gathers [zR 128, zI x3, zI a1] h P8 ∧ ∀ r9 h10, P8 r9 h10 →
 ∃ x13 : Int, r9 = some (zI x13) ∧
 (0 ≤ x3 ∧ x3 ≤ 5) ∧
 (0 ≤ a1 ∧ a1 ≤ 5) ∧
 0 ≤ (6 * a1 + x3) ∧ (6 * a1 + x3) < 336 ∧
 ((¬ (h10 129 (6 * a1 + x3).toNat) = 64 →
  zV RX7 cX7_serves 7 (some .int) d Post Γ 63 [(0, zR 128), (1, zI a1), (2, zI x3), (3, zI x6), (4, zI x13)] [] h10) ∧
 ((h10 129 (6 * a1 + x3).toNat) = 64 →
  (0 ≤ x3 ∧ x3 ≤ 5) ∧
  (0 ≤ a1 ∧ a1 ≤ 5) ∧
  0 ≤ (36 + 6 * a1 + x3) ∧ (36 + 6 * a1 + x3) < 336 ∧
  ((¬ (h10 129 (36 + 6 * a1 + x3).toNat) = 0 →
   zV RX7 cX7_serves 7 (some .int) d Post Γ 63 [(0, zR 128), (1, zI a1), (2, zI x3), (3, zI x6), (4, zI x13)] [] h10) ∧
  ((h10 129 (36 + 6 * a1 + x3).toNat) = 0 →
   zV RX7 cX7_serves 7 (some .int) d Post Γ 64 [(0, zR 128), (1, zI a1), (2, zI x3), (3, zI x6), (4, zI x13)] [zI 1] h10))))) :
    zV RX7 cX7_serves 7 (some .int) d Post Γ 0 [(0, zR 128), (1, zI a1)] [] h := by
  refine z_aload_n (pc := 0) (n := 0) dX7_serves_0 rfl rfl ?_
  refine z_getR (pc := 1) (q2 := 129) zo_Model rfl inT7 (i := 0) (by decide) wf_X7_7 rfl (fun _ _ => rfl) dX7_serves_1 ?_
  refine z_bipush (pc := 4) (a := 126) dX7_serves_4 rfl ?_
  refine z_iload_n (pc := 6) (n := 1) dX7_serves_6 rfl rfl ?_
  refine z_iadd (pc := 7) dX7_serves_7 ?_
  obtain ⟨c1, c2, Q⟩ := Q
  refine z_iald (pc := 8) za_ms c1 c2 dX7_serves_8 ?_
  refine z_top (fun x3 ex3 => ?_)
  replace Q := Q x3 ex3
  refine z_istore_n (pc := 9) (ls' := [(2, _), (0, _), (1, _)]) dX7_serves_9 rfl (by decide) rfl ?_
  refine z_aload_n (pc := 10) (n := 1) dX7_serves_10 rfl rfl ?_
  refine z_getR (pc := 11) (q2 := 129) zo_Model rfl inT7 (i := 0) (by decide) wf_X7_7 rfl (fun _ _ => rfl) dX7_serves_11 ?_
  refine z_bipush (pc := 14) (a := 72) dX7_serves_14 rfl ?_
  refine z_bipush (pc := 16) (a := 6) dX7_serves_16 rfl ?_
  refine z_iload_n (pc := 18) (n := 2) dX7_serves_18 rfl rfl ?_
  refine z_imul (pc := 19) dX7_serves_19 ?_
  refine z_iadd (pc := 20) dX7_serves_20 ?_
  obtain ⟨c4, c5, Q⟩ := Q
  refine z_iald (pc := 21) za_ms c4 c5 dX7_serves_21 ?_
  refine z_top (fun x6 ex6 => ?_)
  replace Q := Q x6 ex6
  refine z_istore_n (pc := 22) (ls' := [(3, _), (2, _), (0, _), (1, _)]) dX7_serves_22 rfl (by decide) rfl ?_
  refine z_aload_n (pc := 23) (n := 2) dX7_serves_23 rfl rfl ?_
  refine z_iload_n (pc := 24) (n := 1) dX7_serves_24 rfl rfl ?_
  refine z_iload_n (pc := 25) (n := 3) dX7_serves_25 rfl rfl ?_
  obtain ⟨d7, P8, e11, s12, Q⟩ := Q
  refine z_callV (pc := 26) (M := mX7_gathers) (as := [_, _]) (st := []) s12 zo_Model rfl wi_X7_gathers wm_X7_gathers ⟨by omega, by decide⟩ wl_X7_99 dX7_serves_26 rfl (Nat.le_of_ble_eq_true rfl) rfl ?_
  intro r9 h10 s12
  obtain ⟨x13, rfl, Q⟩ := Q _ _ s12
  refine z_istore (pc := 29) (ls' := [(4, _), (3, _), (2, _), (0, _), (1, _)]) dX7_serves_29 (by decide) rfl ?_
  refine z_aload_n (pc := 31) (n := 3) dX7_serves_31 rfl rfl ?_
  refine z_getR (pc := 32) (q2 := 129) zo_Model rfl inT7 (i := 0) (by decide) wf_X7_7 rfl (fun _ _ => rfl) dX7_serves_32 ?_
  refine z_iload_n (pc := 35) (n := 2) dX7_serves_35 rfl rfl ?_
  refine z_iload_n (pc := 36) (n := 4) dX7_serves_36 rfl rfl ?_
  obtain ⟨c14, Q⟩ := Q
  obtain ⟨c15, Q⟩ := Q
  refine z_callS (pc := 37) (M := mX7_held) (as := [_, _]) (st := [_]) (c_X7_held c14 c15) wt_X7_held wm_X7_held ⟨by omega, by decide⟩ wl_X7_51 dX7_serves_37 rfl (Nat.le_of_ble_eq_true rfl) rfl ?_
  rintro _ _ ⟨rfl, rfl⟩
  obtain ⟨c16, c17, Q⟩ := Q
  refine z_iald (pc := 40) za_ms c16 c17 dX7_serves_40 ?_
  refine z_bipush (pc := 41) (a := 64) dX7_serves_41 rfl ?_
  refine z_icmp_ne (pc := 43) (tgt := 63) dX7_serves_43 (by decide) (fun c => ?_) (fun c => ?_)
  · replace Q := Q.1 c
    exact z_sub (ks := [3, 4, 2, 1, 0]) rfl Q
  · replace Q := Q.2 c
    refine z_aload_n (pc := 46) (n := 3) dX7_serves_46 rfl rfl ?_
    refine z_getR (pc := 47) (q2 := 129) zo_Model rfl inT7 (i := 0) (by decide) wf_X7_7 rfl (fun _ _ => rfl) dX7_serves_47 ?_
    refine z_iload_n (pc := 50) (n := 2) dX7_serves_50 rfl rfl ?_
    refine z_iload_n (pc := 51) (n := 4) dX7_serves_51 rfl rfl ?_
    obtain ⟨c18, Q⟩ := Q
    obtain ⟨c19, Q⟩ := Q
    refine z_callS (pc := 52) (M := mX7_holds) (as := [_, _]) (st := [_]) (c_X7_holds c18 c19) wt_X7_holds wm_X7_holds ⟨by omega, by decide⟩ wl_X7_72 dX7_serves_52 rfl (Nat.le_of_ble_eq_true rfl) rfl ?_
    rintro _ _ ⟨rfl, rfl⟩
    obtain ⟨c20, c21, Q⟩ := Q
    refine z_iald (pc := 55) za_ms c20 c21 dX7_serves_55 ?_
    refine z_if_ne (pc := 56) (tgt := 63) dX7_serves_56 (by decide) (fun c => ?_) (fun c => ?_)
    · replace Q := Q.1 c
      exact z_sub (ks := [3, 4, 2, 1, 0]) rfl Q
    · replace Q := Q.2 c
      refine z_iconst (pc := 59) (a := 1) dX7_serves_59 rfl ?_
      refine z_goto (pc := 60) (tgt := 64) dX7_serves_60 (by decide) ?_
      exact z_sub (ks := [3, 4, 2, 1, 0]) rfl Q
set_option maxHeartbeats 4000000 in
set_option maxRecDepth 100000 in
theorem k_X7_serves_63 {d : Nat} {Post : Option zA → zH → Prop} {Γ : zCx} {h : zH} {v1 : Int} {v2 : Int} {v3 : Int} {v4 : Int}  (hd : 1 ≤ d) (Q :
 zV RX7 cX7_serves 7 (some .int) d Post Γ 64 [(0, zR 128), (1, zI v1), (2, zI v2), (3, zI v3), (4, zI v4)] [zI 0] h) :
    zV RX7 cX7_serves 7 (some .int) d Post Γ 63 [(0, zR 128), (1, zI v1), (2, zI v2), (3, zI v3), (4, zI v4)] [] h := by
  refine z_iconst (pc := 63) (a := 0) dX7_serves_63 rfl ?_
  exact z_sub (ks := [0, 1, 2, 3, 4]) rfl Q
set_option maxHeartbeats 4000000 in
set_option maxRecDepth 100000 in
theorem k_X7_serves_64 {d : Nat} {Post : Option zA → zH → Prop} {Γ : zCx} {h : zH} {v1 : Int} {v2 : Int} {v3 : Int} {v4 : Int} {w0 : Int}  (hd : 1 ≤ d) (Q :
 ((¬ w0 = 0 →
  ((v3 = v2 →
   zV RX7 cX7_serves 7 (some .int) d Post Γ 99 [(0, zR 128), (1, zI v1), (2, zI v2), (3, zI v3), (4, zI v4), (5, zI w0)] [] h) ∧
  (¬ v3 = v2 →
   ∃ (d1 : Nat) (P2 : Option zA → zH → Prop), d1 + 1 ≤ d ∧ zSp d1 mX7_isFull [zR 128] h P2 ∧ ∀ r3 h4, P2 r3 h4 →
   ∃ x7 : Int, r3 = some (zI x7) ∧
   ((x7 = 0 →
    zV RX7 cX7_serves 7 (some .int) d Post Γ 99 [(0, zR 128), (1, zI v1), (2, zI v2), (3, zI v3), (4, zI v4), (5, zI w0)] [] h4) ∧
   (¬ x7 = 0 →
    Post (some (zI (-3))) h4))))) ∧
 (w0 = 0 →
  ((v4 ≤ 0 →
   Post (some (zI (-5))) h) ∧
  (¬ v4 ≤ 0 →
   Post (some (zI 9)) h))))) :
    zV RX7 cX7_serves 7 (some .int) d Post Γ 64 [(0, zR 128), (1, zI v1), (2, zI v2), (3, zI v3), (4, zI v4)] [zI w0] h := by
  refine z_istore (pc := 64) (ls' := [(5, _), (0, _), (1, _), (2, _), (3, _), (4, _)]) dX7_serves_64 (by decide) rfl ?_
  refine z_iload (pc := 66) (n := 0) dX7_serves_66 rfl ?_
  refine z_if_ne (pc := 68) (tgt := 84) dX7_serves_68 (by decide) (fun c => ?_) (fun c => ?_)
  · replace Q := Q.1 c
    refine z_iload_n (pc := 84) (n := 4) dX7_serves_84 rfl rfl ?_
    refine z_iload_n (pc := 85) (n := 3) dX7_serves_85 rfl rfl ?_
    refine z_icmp_eq (pc := 86) (tgt := 99) dX7_serves_86 (by decide) (fun c => ?_) (fun c => ?_)
    · replace Q := Q.1 c
      exact z_sub (ks := [1, 2, 3, 4, 5, 0]) rfl Q
    · replace Q := Q.2 c
      refine z_aload_n (pc := 89) (n := 1) dX7_serves_89 rfl rfl ?_
      obtain ⟨d1, P2, e5, s6, Q⟩ := Q
      refine z_callV (pc := 90) (M := mX7_isFull) (as := []) (st := []) s6 zo_Model rfl wi_X7_isFull wm_X7_isFull ⟨by omega, by decide⟩ wl_X7_102 dX7_serves_90 rfl (Nat.le_of_ble_eq_true rfl) rfl ?_
      intro r3 h4 s6
      obtain ⟨x7, rfl, Q⟩ := Q _ _ s6
      refine z_if_eq (pc := 93) (tgt := 99) dX7_serves_93 (by decide) (fun c => ?_) (fun c => ?_)
      · replace Q := Q.1 c
        exact z_sub (ks := [1, 2, 3, 4, 5, 0]) rfl Q
      · replace Q := Q.2 c
        refine z_bipush (pc := 96) (a := -3) dX7_serves_96 rfl ?_
        exact z_iret (pc := 98) rfl dX7_serves_98 Q
  · replace Q := Q.2 c
    refine z_iload (pc := 71) (n := 5) dX7_serves_71 rfl ?_
    refine z_if_le (pc := 73) (tgt := 81) dX7_serves_73 (by decide) (fun c => ?_) (fun c => ?_)
    · replace Q := Q.1 c
      refine z_bipush (pc := 81) (a := -5) dX7_serves_81 rfl ?_
      exact z_iret (pc := 83) rfl dX7_serves_83 Q
    · replace Q := Q.2 c
      refine z_bipush (pc := 76) (a := 9) dX7_serves_76 rfl ?_
      refine z_goto (pc := 78) (tgt := 83) dX7_serves_78 (by decide) ?_
      exact z_iret (pc := 83) rfl dX7_serves_83 Q
set_option maxHeartbeats 4000000 in
set_option maxRecDepth 100000 in
theorem k_X7_serves_99 {d : Nat} {Post : Option zA → zH → Prop} {Γ : zCx} {h : zH} {v1 : Int} {v2 : Int} {v3 : Int} {v4 : Int} {v5 : Int}  (hd : 1 ≤ d) (Q :
 ∃ (d1 : Nat) (P2 : Option zA → zH → Prop), d1 + 1 ≤ d ∧ zSp d1 mX7_dropClaim [zR 128, zI v1, zI 0] h P2 ∧ ∀ r3 h4, P2 r3 h4 →
 r3 = none ∧
 ((v3 = v2 →
  Post (some (zI v3)) h4) ∧
 (¬ v3 = v2 →
  ∃ (d7 : Nat) (P8 : Option zA → zH → Prop), d7 + 1 ≤ d ∧ zSp d7 mX7_lends [zR 128, zI v2, zI v3, zI v1, zI 64] h4 P8 ∧ ∀ r9 h10, P8 r9 h10 →
  ∃ x13 : Int, r9 = some (zI x13) ∧
  Post (some (zI v3)) h10))) :
    zV RX7 cX7_serves 7 (some .int) d Post Γ 99 [(0, zR 128), (1, zI v1), (2, zI v2), (3, zI v3), (4, zI v4), (5, zI v5)] [] h := by
  refine z_aload_n (pc := 99) (n := 0) dX7_serves_99 rfl rfl ?_
  refine z_iload_n (pc := 100) (n := 1) dX7_serves_100 rfl rfl ?_
  refine z_iconst (pc := 101) (a := 0) dX7_serves_101 rfl ?_
  obtain ⟨d1, P2, e5, s6, Q⟩ := Q
  refine z_callV (pc := 102) (M := mX7_dropClaim) (as := [_, _]) (st := []) s6 zo_Model rfl wi_X7_dropClaim wm_X7_dropClaim ⟨by omega, by decide⟩ wl_X7_138 dX7_serves_102 rfl (Nat.le_of_ble_eq_true rfl) rfl ?_
  intro r3 h4 s6
  obtain ⟨rfl, Q⟩ := Q _ _ s6
  refine z_iload_n (pc := 105) (n := 3) dX7_serves_105 rfl rfl ?_
  refine z_iload_n (pc := 106) (n := 2) dX7_serves_106 rfl rfl ?_
  refine z_icmp_eq (pc := 107) (tgt := 121) dX7_serves_107 (by decide) (fun c => ?_) (fun c => ?_)
  · replace Q := Q.1 c
    refine z_iload_n (pc := 121) (n := 3) dX7_serves_121 rfl rfl ?_
    exact z_iret (pc := 122) rfl dX7_serves_122 Q
  · replace Q := Q.2 c
    refine z_aload_n (pc := 110) (n := 0) dX7_serves_110 rfl rfl ?_
    refine z_iload_n (pc := 111) (n := 2) dX7_serves_111 rfl rfl ?_
    refine z_iload_n (pc := 112) (n := 3) dX7_serves_112 rfl rfl ?_
    refine z_iload_n (pc := 113) (n := 1) dX7_serves_113 rfl rfl ?_
    refine z_bipush (pc := 114) (a := 64) dX7_serves_114 rfl ?_
    obtain ⟨d7, P8, e11, s12, Q⟩ := Q
    refine z_callV (pc := 116) (M := mX7_lends) (as := [_, _, _, _]) (st := []) s12 zo_Model rfl wi_X7_lends wm_X7_lends ⟨by omega, by decide⟩ wl_X7_117 dX7_serves_116 rfl (Nat.le_of_ble_eq_true rfl) rfl ?_
    intro r9 h10 s12
    obtain ⟨x13, rfl, Q⟩ := Q _ _ s12
    refine z_istore (pc := 119) (ls' := [(6, _), (0, _), (1, _), (2, _), (3, _), (4, _), (5, _)]) dX7_serves_119 (by decide) rfl ?_
    refine z_iload_n (pc := 121) (n := 4) dX7_serves_121 rfl rfl ?_
    exact z_iret (pc := 122) rfl dX7_serves_122 Q
set_option maxHeartbeats 4000000 in
set_option maxRecDepth 100000 in
theorem k_X7_sign_0 {d : Nat} {Post : Option zA → zH → Prop} {Γ : zCx} {h : zH} {a1 : Int} {a2 : Int}  (hd : 1 ≤ d) (Q :
 (((h 128 8) ≤ (h 128 15) →
  zV RX7 cX7_sign 4 (some .int) d Post Γ 24 [(0, zR 128), (1, zI a1), (2, zI a2)] [zI 0] h) ∧
 (¬ (h 128 8) ≤ (h 128 15) →
  0 ≤ (h 128 15) ∧ (h 128 15) < 60 ∧
  zV RX7 cX7_sign 4 (some .int) d Post Γ 24 [(0, zR 128), (1, zI a1), (2, zI a2)] [zI (h 134 (h 128 15).toNat)] h))) :
    zV RX7 cX7_sign 4 (some .int) d Post Γ 0 [(0, zR 128), (1, zI a1), (2, zI a2)] [] h := by
  refine z_aload_n (pc := 0) (n := 0) dX7_sign_0 rfl rfl ?_
  refine z_getI (pc := 1) zo_Model rfl inT7 (i := 15) (by decide) wf_X7_151 rfl (fun _ _ => rfl) dX7_sign_1 ?_
  refine z_aload_n (pc := 4) (n := 0) dX7_sign_4 rfl rfl ?_
  refine z_getI (pc := 5) zo_Model rfl inT7 (i := 8) (by decide) wf_X7_148 rfl (fun _ _ => rfl) dX7_sign_5 ?_
  refine z_icmp_ge (pc := 8) (tgt := 23) dX7_sign_8 (by decide) (fun c => ?_) (fun c => ?_)
  · replace Q := Q.1 c
    refine z_iconst (pc := 23) (a := 0) dX7_sign_23 rfl ?_
    exact z_sub (ks := [0, 1, 2]) rfl Q
  · replace Q := Q.2 c
    refine z_aload_n (pc := 11) (n := 0) dX7_sign_11 rfl rfl ?_
    refine z_getR (pc := 12) (q2 := 134) zo_Model rfl inT7 (i := 7) (by decide) wf_X7_25 rfl (fun _ _ => rfl) dX7_sign_12 ?_
    refine z_aload_n (pc := 15) (n := 0) dX7_sign_15 rfl rfl ?_
    refine z_getI (pc := 16) zo_Model rfl inT7 (i := 15) (by decide) wf_X7_151 rfl (fun _ _ => rfl) dX7_sign_16 ?_
    obtain ⟨c1, c2, Q⟩ := Q
    refine z_iald (pc := 19) za_mtext c1 c2 dX7_sign_19 ?_
    refine z_goto (pc := 20) (tgt := 24) dX7_sign_20 (by decide) ?_
    exact z_sub (ks := [0, 1, 2]) rfl Q
set_option maxHeartbeats 4000000 in
set_option maxRecDepth 100000 in
theorem k_X7_sign_24 {d : Nat} {Post : Option zA → zH → Prop} {Γ : zCx} {h : zH} {v1 : Int} {v2 : Int} {w0 : Int}  (hd : 2 ≤ d) (Q :
 ((¬ (h 128 16) = 0 →
  zV RX7 cX7_sign 4 (some .int) d Post Γ 42 [(0, zR 128), (1, zI v1), (2, zI v2), (3, zI w0)] [zR 128] h) ∧
 ((h 128 16) = 0 →
  ((v1 ≤ w0 ∧ w0 ≤ v2 →
   zV RX7 cX7_sign 4 (some .int) d Post Γ 47 [(0, zR 128), (1, zI v1), (2, zI v2), (3, zI w0)] [zI 0, zR 128] h) ∧
  (¬ (v1 ≤ w0 ∧ w0 ≤ v2) →
   zV RX7 cX7_sign 4 (some .int) d Post Γ 42 [(0, zR 128), (1, zI v1), (2, zI v2), (3, zI w0)] [zR 128] h))))) :
    zV RX7 cX7_sign 4 (some .int) d Post Γ 24 [(0, zR 128), (1, zI v1), (2, zI v2)] [zI w0] h := by
  refine z_istore_n (pc := 24) (ls' := [(3, _), (0, _), (1, _), (2, _)]) dX7_sign_24 rfl (by decide) rfl ?_
  refine z_aload_n (pc := 25) (n := 1) dX7_sign_25 rfl rfl ?_
  refine z_aload_n (pc := 26) (n := 1) dX7_sign_26 rfl rfl ?_
  refine z_getI (pc := 27) zo_Model rfl inT7 (i := 16) (by decide) wf_X7_154 rfl (fun _ _ => rfl) dX7_sign_27 ?_
  refine z_if_ne (pc := 30) (tgt := 42) dX7_sign_30 (by decide) (fun c => ?_) (fun c => ?_)
  · replace Q := Q.1 c
    exact z_sub (ks := [1, 2, 3, 0]) rfl Q
  · replace Q := Q.2 c
    refine z_iload_n (pc := 33) (n := 0) dX7_sign_33 rfl rfl ?_
    refine z_iload_n (pc := 34) (n := 2) dX7_sign_34 rfl rfl ?_
    refine z_iload_n (pc := 35) (n := 3) dX7_sign_35 rfl rfl ?_
    refine z_callS (pc := 36) (M := mX7_in) (as := [_, _, _]) (st := [_]) c_X7_in wt_X7_in wm_X7_in ⟨by omega, by decide⟩ wl_X7_55 dX7_sign_36 rfl (Nat.le_of_ble_eq_true rfl) rfl ?_
    rintro _ _ ⟨rfl, rfl⟩
    refine z_ifb_ne (pc := 39) (tgt := 46) dX7_sign_39 (by decide) (fun c => ?_) (fun c => ?_)
    · replace Q := Q.1 c
      refine z_iconst (pc := 46) (a := 0) dX7_sign_46 rfl ?_
      exact z_sub (ks := [1, 2, 3, 0]) rfl Q
    · replace Q := Q.2 c
      exact z_sub (ks := [1, 2, 3, 0]) rfl Q
set_option maxHeartbeats 4000000 in
set_option maxRecDepth 100000 in
theorem k_X7_sign_42 {d : Nat} {Post : Option zA → zH → Prop} {Γ : zCx} {h : zH} {v1 : Int} {v2 : Int} {v3 : Int}  (hd : 1 ≤ d) (Q :
 zV RX7 cX7_sign 4 (some .int) d Post Γ 47 [(0, zR 128), (1, zI v1), (2, zI v2), (3, zI v3)] [zI 1, zR 128] h) :
    zV RX7 cX7_sign 4 (some .int) d Post Γ 42 [(0, zR 128), (1, zI v1), (2, zI v2), (3, zI v3)] [zR 128] h := by
  refine z_iconst (pc := 42) (a := 1) dX7_sign_42 rfl ?_
  refine z_goto (pc := 43) (tgt := 47) dX7_sign_43 (by decide) ?_
  exact z_sub (ks := [0, 1, 2, 3]) rfl Q
set_option maxHeartbeats 4000000 in
set_option maxRecDepth 100000 in
theorem k_X7_sign_47 {d : Nat} {Post : Option zA → zH → Prop} {Γ : zCx} {h : zH} {v1 : Int} {v2 : Int} {v3 : Int} {w0 : Int}  (hd : 1 ≤ d) (Q :
 (w0 = 0 ∨ w0 = 1) ∧
 ∀ h2 : zH, h2 = zu h 128 16 w0 →
 (((h2 128 16) = 0 →
  ∀ h3 : zH, h3 = zu h2 128 15 (zwr ((h2 128 15) + 1)) →
  Post (some (zI v3)) h3) ∧
 (¬ (h2 128 16) = 0 →
  ∀ h4 : zH, h4 = zu h2 128 15 (zwr ((h2 128 15) + 0)) →
  Post (some (zI v3)) h4))) :
    zV RX7 cX7_sign 4 (some .int) d Post Γ 47 [(0, zR 128), (1, zI v1), (2, zI v2), (3, zI v3)] [zI w0, zR 128] h := by
  obtain ⟨c1, Q⟩ := Q
  refine z_putZ (pc := 47) zo_Model rfl inT7 (i := 16) (by decide) wf_X7_154 rfl tyX7 tyX7_ok nmX7 rfl (fun _ _ => Nat.le_of_ble_eq_true rfl) (fun _ _ _ => rfl) c1 rfl dX7_sign_47 ?_
  refine z_heap (fun h2 eh2 => ?_)
  replace Q := Q h2 eh2
  refine z_aload_n (pc := 50) (n := 0) dX7_sign_50 rfl rfl ?_
  refine z_dup (pc := 51) dX7_sign_51 rfl ?_
  refine z_getI (pc := 52) zo_Model rfl inT7 (i := 15) (by decide) wf_X7_151 rfl (fun _ _ => rfl) dX7_sign_52 ?_
  refine z_aload_n (pc := 55) (n := 0) dX7_sign_55 rfl rfl ?_
  refine z_getI (pc := 56) zo_Model rfl inT7 (i := 16) (by decide) wf_X7_154 rfl (fun _ _ => rfl) dX7_sign_56 ?_
  refine z_if_eq (pc := 59) (tgt := 66) dX7_sign_59 (by decide) (fun c => ?_) (fun c => ?_)
  · replace Q := Q.1 c
    refine z_iconst (pc := 66) (a := 1) dX7_sign_66 rfl ?_
    refine z_iadd (pc := 67) dX7_sign_67 ?_
    refine z_putI (pc := 68) zo_Model rfl inT7 (i := 15) (by decide) wf_X7_151 rfl tyX7 tyX7_ok nmX7 rfl (fun _ _ => Nat.le_of_ble_eq_true rfl) (fun _ _ _ => rfl) rfl dX7_sign_68 ?_
    refine z_heap (fun h3 eh3 => ?_)
    replace Q := Q h3 eh3
    refine z_iload_n (pc := 71) (n := 3) dX7_sign_71 rfl rfl ?_
    exact z_iret (pc := 72) rfl dX7_sign_72 Q
  · replace Q := Q.2 c
    refine z_iconst (pc := 62) (a := 0) dX7_sign_62 rfl ?_
    refine z_goto (pc := 63) (tgt := 67) dX7_sign_63 (by decide) ?_
    refine z_iadd (pc := 67) dX7_sign_67 ?_
    refine z_putI (pc := 68) zo_Model rfl inT7 (i := 15) (by decide) wf_X7_151 rfl tyX7 tyX7_ok nmX7 rfl (fun _ _ => Nat.le_of_ble_eq_true rfl) (fun _ _ _ => rfl) rfl dX7_sign_68 ?_
    refine z_heap (fun h4 eh4 => ?_)
    replace Q := Q h4 eh4
    refine z_iload_n (pc := 71) (n := 3) dX7_sign_71 rfl rfl ?_
    exact z_iret (pc := 72) rfl dX7_sign_72 Q
set_option maxHeartbeats 4000000 in
set_option maxRecDepth 100000 in
theorem k_X7_stop_0 {d : Nat} {Post : Option zA → zH → Prop} {Γ : zCx} {h : zH} {a1 : Int}  (hd : 2 ≤ d) (Q :
 ((0 ≤ a1 ∧ a1 ≤ 1 →
  ((¬ a1 = 0 →
   Post (some (zI (h 128 10))) h) ∧
  (a1 = 0 →
   Post (some (zI (h 128 9))) h))) ∧
 (¬ (0 ≤ a1 ∧ a1 ≤ 1) →
  Post (some (zI (-2))) h))) :
    zV RX7 cX7_stop 2 (some .int) d Post Γ 0 [(0, zR 128), (1, zI a1)] [] h := by
  refine z_iload_n (pc := 0) (n := 1) dX7_stop_0 rfl rfl ?_
  refine z_iconst (pc := 1) (a := 0) dX7_stop_1 rfl ?_
  refine z_iconst (pc := 2) (a := 1) dX7_stop_2 rfl ?_
  refine z_callS (pc := 3) (M := mX7_in) (as := [_, _, _]) (st := []) c_X7_in wt_X7_in wm_X7_in ⟨by omega, by decide⟩ wl_X7_55 dX7_stop_3 rfl (Nat.le_of_ble_eq_true rfl) rfl ?_
  rintro _ _ ⟨rfl, rfl⟩
  refine z_ifb_ne (pc := 6) (tgt := 14) dX7_stop_6 (by decide) (fun c => ?_) (fun c => ?_)
  · replace Q := Q.1 c
    refine z_iload_n (pc := 14) (n := 1) dX7_stop_14 rfl rfl ?_
    refine z_if_ne (pc := 15) (tgt := 25) dX7_stop_15 (by decide) (fun c => ?_) (fun c => ?_)
    · replace Q := Q.1 c
      refine z_aload_n (pc := 25) (n := 0) dX7_stop_25 rfl rfl ?_
      refine z_getI (pc := 26) zo_Model rfl inT7 (i := 10) (by decide) wf_X7_32 rfl (fun _ _ => rfl) dX7_stop_26 ?_
      exact z_iret (pc := 29) rfl dX7_stop_29 Q
    · replace Q := Q.2 c
      refine z_aload_n (pc := 18) (n := 0) dX7_stop_18 rfl rfl ?_
      refine z_getI (pc := 19) zo_Model rfl inT7 (i := 9) (by decide) wf_X7_28 rfl (fun _ _ => rfl) dX7_stop_19 ?_
      refine z_goto (pc := 22) (tgt := 29) dX7_stop_22 (by decide) ?_
      exact z_iret (pc := 29) rfl dX7_stop_29 Q
  · replace Q := Q.2 c
    refine z_bipush (pc := 9) (a := -2) dX7_stop_9 rfl ?_
    refine z_goto (pc := 11) (tgt := 29) dX7_stop_11 (by decide) ?_
    exact z_iret (pc := 29) rfl dX7_stop_29 Q
set_option maxHeartbeats 4000000 in
set_option maxRecDepth 100000 in
theorem k_X7_sum_0 {d : Nat} {Post : Option zA → zH → Prop} {Γ : zCx} {h : zH} {a1 : Int} {a2 : Int} {a3 : Int}  (hd : 1 ≤ d) (Q :
 zV RX7 cX7_sum 6 (some .int) d Post Γ 6 [(0, zR 128), (1, zI a1), (2, zI a2), (3, zI a3), (4, zI 0), (5, zI 0)] [] h) :
    zV RX7 cX7_sum 6 (some .int) d Post Γ 0 [(0, zR 128), (1, zI a1), (2, zI a2), (3, zI a3)] [] h := by
  refine z_iconst (pc := 0) (a := 0) dX7_sum_0 rfl ?_
  refine z_istore (pc := 1) (ls' := [(4, _), (0, _), (1, _), (2, _), (3, _)]) dX7_sum_1 (by decide) rfl ?_
  refine z_iconst (pc := 3) (a := 0) dX7_sum_3 rfl ?_
  refine z_istore (pc := 4) (ls' := [(5, _), (4, _), (0, _), (1, _), (2, _), (3, _)]) dX7_sum_4 (by decide) rfl ?_
  exact z_sub (ks := [2, 3, 4, 5, 1, 0]) rfl Q
set_option maxHeartbeats 4000000 in
set_option maxRecDepth 100000 in
theorem k_X7_sum_6 {d : Nat} {Post : Option zA → zH → Prop} {Γ : zCx} {h : zH} {v1 : Int} {v2 : Int} {v3 : Int} {v4 : Int} {v5 : Int}  (hd : 2 ≤ d) (Q :
 (((h 129 132) ≤ v5 →
  Post (some (zI v4)) h) ∧
 (¬ (h 129 132) ≤ v5 →
  (-1 ≤ v5 ∧ v5 ≤ 40) ∧
  0 ≤ (136 + 5 * v5 + 3) ∧ (136 + 5 * v5 + 3) < 336 ∧
  ((¬ (h 129 (136 + 5 * v5 + 3).toNat) = v2 →
   ∀ x4 : Int, x4 = (zwr (v4 + 0)) →
   ∀ x5 : Int, x5 = zwr (v5 + 1) →
   zV RX7 cX7_sum 6 (some .int) d Post Γ 6 [(0, zR 128), (1, zI v1), (2, zI v2), (3, zI v3), (4, zI x4), (5, zI x5)] [] h) ∧
  ((h 129 (136 + 5 * v5 + 3).toNat) = v2 →
   (-1 ≤ v5 ∧ v5 ≤ 40) ∧
   (0 ≤ v3 ∧ v3 ≤ 4) ∧
   0 ≤ (136 + 5 * v5 + v3) ∧ (136 + 5 * v5 + v3) < 336 ∧
   ((¬ (h 129 (136 + 5 * v5 + v3).toNat) = v1 →
    ∀ x10 : Int, x10 = (zwr (v4 + 0)) →
    ∀ x11 : Int, x11 = zwr (v5 + 1) →
    zV RX7 cX7_sum 6 (some .int) d Post Γ 6 [(0, zR 128), (1, zI v1), (2, zI v2), (3, zI v3), (4, zI x10), (5, zI x11)] [] h) ∧
   ((h 129 (136 + 5 * v5 + v3).toNat) = v1 →
    (-1 ≤ v5 ∧ v5 ≤ 40) ∧
    0 ≤ (136 + 5 * v5 + 4) ∧ (136 + 5 * v5 + 4) < 336 ∧
    ∀ x15 : Int, x15 = (zwr (v4 + (h 129 (136 + 5 * v5 + 4).toNat))) →
    ∀ x16 : Int, x16 = zwr (v5 + 1) →
    zV RX7 cX7_sum 6 (some .int) d Post Γ 6 [(0, zR 128), (1, zI v1), (2, zI v2), (3, zI v3), (4, zI x15), (5, zI x16)] [] h))))))) :
    zV RX7 cX7_sum 6 (some .int) d Post Γ 6 [(0, zR 128), (1, zI v1), (2, zI v2), (3, zI v3), (4, zI v4), (5, zI v5)] [] h := by
  refine z_iload (pc := 6) (n := 5) dX7_sum_6 rfl ?_
  refine z_aload_n (pc := 8) (n := 0) dX7_sum_8 rfl rfl ?_
  refine z_getR (pc := 9) (q2 := 129) zo_Model rfl inT7 (i := 0) (by decide) wf_X7_7 rfl (fun _ _ => rfl) dX7_sum_9 ?_
  refine z_sipush (pc := 12) (a := 132) dX7_sum_12 rfl ?_
  refine z_iald (pc := 15) za_ms (by decide) (by decide) dX7_sum_15 ?_
  refine z_icmp_ge (pc := 16) (tgt := 75) dX7_sum_16 (by decide) (fun c => ?_) (fun c => ?_)
  · replace Q := Q.1 c
    refine z_iload (pc := 75) (n := 4) dX7_sum_75 rfl ?_
    exact z_iret (pc := 77) rfl dX7_sum_77 Q
  · replace Q := Q.2 c
    refine z_iload (pc := 19) (n := 4) dX7_sum_19 rfl ?_
    refine z_aload_n (pc := 21) (n := 0) dX7_sum_21 rfl rfl ?_
    refine z_getR (pc := 22) (q2 := 129) zo_Model rfl inT7 (i := 0) (by decide) wf_X7_7 rfl (fun _ _ => rfl) dX7_sum_22 ?_
    refine z_iload (pc := 25) (n := 5) dX7_sum_25 rfl ?_
    refine z_iconst (pc := 27) (a := 3) dX7_sum_27 rfl ?_
    obtain ⟨c1, Q⟩ := Q
    refine z_callS (pc := 28) (M := mX7_of) (as := [_, _]) (st := [_, _]) (c_X7_of c1 (by decide)) wt_X7_of wm_X7_of ⟨by omega, by decide⟩ wl_X7_69 dX7_sum_28 rfl (Nat.le_of_ble_eq_true rfl) rfl ?_
    rintro _ _ ⟨rfl, rfl⟩
    obtain ⟨c2, c3, Q⟩ := Q
    refine z_iald (pc := 31) za_ms c2 c3 dX7_sum_31 ?_
    refine z_iload_n (pc := 32) (n := 2) dX7_sum_32 rfl rfl ?_
    refine z_icmp_ne (pc := 33) (tgt := 65) dX7_sum_33 (by decide) (fun c => ?_) (fun c => ?_)
    · replace Q := Q.1 c
      refine z_iconst (pc := 65) (a := 0) dX7_sum_65 rfl ?_
      refine z_iadd (pc := 66) dX7_sum_66 ?_
      refine z_top (fun x4 ex4 => ?_)
      replace Q := Q x4 ex4
      refine z_istore (pc := 67) (ls' := [(4, _), (0, _), (1, _), (2, _), (3, _), (5, _)]) dX7_sum_67 (by decide) rfl ?_
      refine z_iincg (pc := 69) (n := 5) (lf := fun y => [(5, zI y), (4, _), (0, _), (1, _), (2, _), (3, _)]) dX7_sum_69 rfl (by decide) (fun _ => rfl) (fun x5 ex5 => ?_)
      replace Q := Q x5 ex5
      refine z_goto (pc := 72) (tgt := 6) dX7_sum_72 (by decide) ?_
      exact z_sub (ks := [2, 3, 4, 5, 1, 0]) rfl Q
    · replace Q := Q.2 c
      refine z_aload_n (pc := 36) (n := 0) dX7_sum_36 rfl rfl ?_
      refine z_getR (pc := 37) (q2 := 129) zo_Model rfl inT7 (i := 0) (by decide) wf_X7_7 rfl (fun _ _ => rfl) dX7_sum_37 ?_
      refine z_iload (pc := 40) (n := 5) dX7_sum_40 rfl ?_
      refine z_iload_n (pc := 42) (n := 3) dX7_sum_42 rfl rfl ?_
      obtain ⟨c6, Q⟩ := Q
      obtain ⟨c7, Q⟩ := Q
      refine z_callS (pc := 43) (M := mX7_of) (as := [_, _]) (st := [_, _]) (c_X7_of c6 c7) wt_X7_of wm_X7_of ⟨by omega, by decide⟩ wl_X7_69 dX7_sum_43 rfl (Nat.le_of_ble_eq_true rfl) rfl ?_
      rintro _ _ ⟨rfl, rfl⟩
      obtain ⟨c8, c9, Q⟩ := Q
      refine z_iald (pc := 46) za_ms c8 c9 dX7_sum_46 ?_
      refine z_iload_n (pc := 47) (n := 1) dX7_sum_47 rfl rfl ?_
      refine z_icmp_ne (pc := 48) (tgt := 65) dX7_sum_48 (by decide) (fun c => ?_) (fun c => ?_)
      · replace Q := Q.1 c
        refine z_iconst (pc := 65) (a := 0) dX7_sum_65 rfl ?_
        refine z_iadd (pc := 66) dX7_sum_66 ?_
        refine z_top (fun x10 ex10 => ?_)
        replace Q := Q x10 ex10
        refine z_istore (pc := 67) (ls' := [(4, _), (0, _), (1, _), (2, _), (3, _), (5, _)]) dX7_sum_67 (by decide) rfl ?_
        refine z_iincg (pc := 69) (n := 5) (lf := fun y => [(5, zI y), (4, _), (0, _), (1, _), (2, _), (3, _)]) dX7_sum_69 rfl (by decide) (fun _ => rfl) (fun x11 ex11 => ?_)
        replace Q := Q x11 ex11
        refine z_goto (pc := 72) (tgt := 6) dX7_sum_72 (by decide) ?_
        exact z_sub (ks := [2, 3, 4, 5, 1, 0]) rfl Q
      · replace Q := Q.2 c
        refine z_aload_n (pc := 51) (n := 0) dX7_sum_51 rfl rfl ?_
        refine z_getR (pc := 52) (q2 := 129) zo_Model rfl inT7 (i := 0) (by decide) wf_X7_7 rfl (fun _ _ => rfl) dX7_sum_52 ?_
        refine z_iload (pc := 55) (n := 5) dX7_sum_55 rfl ?_
        refine z_iconst (pc := 57) (a := 4) dX7_sum_57 rfl ?_
        obtain ⟨c12, Q⟩ := Q
        refine z_callS (pc := 58) (M := mX7_of) (as := [_, _]) (st := [_, _]) (c_X7_of c12 (by decide)) wt_X7_of wm_X7_of ⟨by omega, by decide⟩ wl_X7_69 dX7_sum_58 rfl (Nat.le_of_ble_eq_true rfl) rfl ?_
        rintro _ _ ⟨rfl, rfl⟩
        obtain ⟨c13, c14, Q⟩ := Q
        refine z_iald (pc := 61) za_ms c13 c14 dX7_sum_61 ?_
        refine z_goto (pc := 62) (tgt := 66) dX7_sum_62 (by decide) ?_
        refine z_iadd (pc := 66) dX7_sum_66 ?_
        refine z_top (fun x15 ex15 => ?_)
        replace Q := Q x15 ex15
        refine z_istore (pc := 67) (ls' := [(4, _), (0, _), (1, _), (2, _), (3, _), (5, _)]) dX7_sum_67 (by decide) rfl ?_
        refine z_iincg (pc := 69) (n := 5) (lf := fun y => [(5, zI y), (4, _), (0, _), (1, _), (2, _), (3, _)]) dX7_sum_69 rfl (by decide) (fun _ => rfl) (fun x16 ex16 => ?_)
        replace Q := Q x16 ex16
        refine z_goto (pc := 72) (tgt := 6) dX7_sum_72 (by decide) ?_
        exact z_sub (ks := [2, 3, 4, 5, 1, 0]) rfl Q
set_option maxHeartbeats 4000000 in
set_option maxRecDepth 100000 in
theorem k_X7_sumOfCells_0 {d : Nat} {Post : Option zA → zH → Prop} {Γ : zCx} {h : zH} {a1 : Int}  (hd : 1 ≤ d) (Q :
 zV RX7 cX7_sumOfCells 4 (some .int) d Post Γ 4 [(0, zR 128), (1, zI a1), (2, zI 0), (3, zI 0)] [] h) :
    zV RX7 cX7_sumOfCells 4 (some .int) d Post Γ 0 [(0, zR 128), (1, zI a1)] [] h := by
  refine z_iconst (pc := 0) (a := 0) dX7_sumOfCells_0 rfl ?_
  refine z_istore_n (pc := 1) (ls' := [(2, _), (0, _), (1, _)]) dX7_sumOfCells_1 rfl (by decide) rfl ?_
  refine z_iconst (pc := 2) (a := 0) dX7_sumOfCells_2 rfl ?_
  refine z_istore_n (pc := 3) (ls' := [(3, _), (2, _), (0, _), (1, _)]) dX7_sumOfCells_3 rfl (by decide) rfl ?_
  exact z_sub (ks := [2, 3, 1, 0]) rfl Q
set_option maxHeartbeats 4000000 in
set_option maxRecDepth 100000 in
theorem k_X7_sumOfCells_4 {d : Nat} {Post : Option zA → zH → Prop} {Γ : zCx} {h : zH} {v1 : Int} {v2 : Int} {v3 : Int}  (hd : 1 ≤ d) (Q :
 ((6 ≤ v3 →
  Post (some (zI v2)) h) ∧
 (¬ 6 ≤ v3 →
  ((¬ v1 = 2 →
   ((¬ v1 = 3 →
    ∃ (d1 : Nat) (P2 : Option zA → zH → Prop), d1 + 1 ≤ d ∧ zSp d1 mX7_agentsOf [zR 128, zI v3, zI 8] h P2 ∧ ∀ r3 h4, P2 r3 h4 →
    ∃ x7 : Int, r3 = some (zI x7) ∧
    ∀ x8 : Int, x8 = (zwr (v2 + x7)) →
    ∀ x9 : Int, x9 = zwr (v3 + 1) →
    zV RX7 cX7_sumOfCells 4 (some .int) d Post Γ 4 [(0, zR 128), (1, zI v1), (2, zI x8), (3, zI x9)] [] h4) ∧
   (v1 = 3 →
    0 ≤ (zwr (108 + v3)) ∧ (zwr (108 + v3)) < 336 ∧
    ∀ x12 : Int, x12 = (zwr (v2 + (h 129 (zwr (108 + v3)).toNat))) →
    ∀ x13 : Int, x13 = zwr (v3 + 1) →
    zV RX7 cX7_sumOfCells 4 (some .int) d Post Γ 4 [(0, zR 128), (1, zI v1), (2, zI x12), (3, zI x13)] [] h))) ∧
  (v1 = 2 →
   ∃ (d14 : Nat) (P15 : Option zA → zH → Prop), d14 + 1 ≤ d ∧ zSp d14 mX7_wholeOf [zR 128, zI v3] h P15 ∧ ∀ r16 h17, P15 r16 h17 →
   ∃ x20 : Int, r16 = some (zI x20) ∧
   ((¬ x20 = (-5) →
    ∀ x21 : Int, x21 = (zwr (v2 + 1)) →
    ∀ x22 : Int, x22 = zwr (v3 + 1) →
    zV RX7 cX7_sumOfCells 4 (some .int) d Post Γ 4 [(0, zR 128), (1, zI v1), (2, zI x21), (3, zI x22)] [] h17) ∧
   (x20 = (-5) →
    ∀ x23 : Int, x23 = (zwr (v2 + 0)) →
    ∀ x24 : Int, x24 = zwr (v3 + 1) →
    zV RX7 cX7_sumOfCells 4 (some .int) d Post Γ 4 [(0, zR 128), (1, zI v1), (2, zI x23), (3, zI x24)] [] h17))))))) :
    zV RX7 cX7_sumOfCells 4 (some .int) d Post Γ 4 [(0, zR 128), (1, zI v1), (2, zI v2), (3, zI v3)] [] h := by
  refine z_iload_n (pc := 4) (n := 3) dX7_sumOfCells_4 rfl rfl ?_
  refine z_bipush (pc := 5) (a := 6) dX7_sumOfCells_5 rfl ?_
  refine z_icmp_ge (pc := 7) (tgt := 66) dX7_sumOfCells_7 (by decide) (fun c => ?_) (fun c => ?_)
  · replace Q := Q.1 c
    refine z_iload_n (pc := 66) (n := 2) dX7_sumOfCells_66 rfl rfl ?_
    exact z_iret (pc := 67) rfl dX7_sumOfCells_67 Q
  · replace Q := Q.2 c
    refine z_iload_n (pc := 10) (n := 2) dX7_sumOfCells_10 rfl rfl ?_
    refine z_iload_n (pc := 11) (n := 1) dX7_sumOfCells_11 rfl rfl ?_
    refine z_iconst (pc := 12) (a := 2) dX7_sumOfCells_12 rfl ?_
    refine z_icmp_ne (pc := 13) (tgt := 34) dX7_sumOfCells_13 (by decide) (fun c => ?_) (fun c => ?_)
    · replace Q := Q.1 c
      refine z_iload_n (pc := 34) (n := 1) dX7_sumOfCells_34 rfl rfl ?_
      refine z_iconst (pc := 35) (a := 3) dX7_sumOfCells_35 rfl ?_
      refine z_icmp_ne (pc := 36) (tgt := 51) dX7_sumOfCells_36 (by decide) (fun c => ?_) (fun c => ?_)
      · replace Q := Q.1 c
        refine z_aload_n (pc := 51) (n := 0) dX7_sumOfCells_51 rfl rfl ?_
        refine z_iload_n (pc := 52) (n := 3) dX7_sumOfCells_52 rfl rfl ?_
        refine z_bipush (pc := 53) (a := 8) dX7_sumOfCells_53 rfl ?_
        obtain ⟨d1, P2, e5, s6, Q⟩ := Q
        refine z_callV (pc := 55) (M := mX7_agentsOf) (as := [_, _]) (st := [_]) s6 zo_Model rfl wi_X7_agentsOf wm_X7_agentsOf ⟨by omega, by decide⟩ wl_X7_184 dX7_sumOfCells_55 rfl (Nat.le_of_ble_eq_true rfl) rfl ?_
        intro r3 h4 s6
        obtain ⟨x7, rfl, Q⟩ := Q _ _ s6
        refine z_iadd (pc := 58) dX7_sumOfCells_58 ?_
        refine z_top (fun x8 ex8 => ?_)
        replace Q := Q x8 ex8
        refine z_istore_n (pc := 59) (ls' := [(2, _), (0, _), (1, _), (3, _)]) dX7_sumOfCells_59 rfl (by decide) rfl ?_
        refine z_iincg (pc := 60) (n := 3) (lf := fun y => [(3, zI y), (2, _), (0, _), (1, _)]) dX7_sumOfCells_60 rfl (by decide) (fun _ => rfl) (fun x9 ex9 => ?_)
        replace Q := Q x9 ex9
        refine z_goto (pc := 63) (tgt := 4) dX7_sumOfCells_63 (by decide) ?_
        exact z_sub (ks := [2, 3, 1, 0]) rfl Q
      · replace Q := Q.2 c
        refine z_aload_n (pc := 39) (n := 0) dX7_sumOfCells_39 rfl rfl ?_
        refine z_getR (pc := 40) (q2 := 129) zo_Model rfl inT7 (i := 0) (by decide) wf_X7_7 rfl (fun _ _ => rfl) dX7_sumOfCells_40 ?_
        refine z_bipush (pc := 43) (a := 108) dX7_sumOfCells_43 rfl ?_
        refine z_iload_n (pc := 45) (n := 3) dX7_sumOfCells_45 rfl rfl ?_
        refine z_iadd (pc := 46) dX7_sumOfCells_46 ?_
        obtain ⟨c10, c11, Q⟩ := Q
        refine z_iald (pc := 47) za_ms c10 c11 dX7_sumOfCells_47 ?_
        refine z_goto (pc := 48) (tgt := 58) dX7_sumOfCells_48 (by decide) ?_
        refine z_iadd (pc := 58) dX7_sumOfCells_58 ?_
        refine z_top (fun x12 ex12 => ?_)
        replace Q := Q x12 ex12
        refine z_istore_n (pc := 59) (ls' := [(2, _), (0, _), (1, _), (3, _)]) dX7_sumOfCells_59 rfl (by decide) rfl ?_
        refine z_iincg (pc := 60) (n := 3) (lf := fun y => [(3, zI y), (2, _), (0, _), (1, _)]) dX7_sumOfCells_60 rfl (by decide) (fun _ => rfl) (fun x13 ex13 => ?_)
        replace Q := Q x13 ex13
        refine z_goto (pc := 63) (tgt := 4) dX7_sumOfCells_63 (by decide) ?_
        exact z_sub (ks := [2, 3, 1, 0]) rfl Q
    · replace Q := Q.2 c
      refine z_aload_n (pc := 16) (n := 0) dX7_sumOfCells_16 rfl rfl ?_
      refine z_iload_n (pc := 17) (n := 3) dX7_sumOfCells_17 rfl rfl ?_
      obtain ⟨d14, P15, e18, s19, Q⟩ := Q
      refine z_callV (pc := 18) (M := mX7_wholeOf) (as := [_]) (st := [_]) s19 zo_Model rfl wi_X7_wholeOf wm_X7_wholeOf ⟨by omega, by decide⟩ wl_X7_187 dX7_sumOfCells_18 rfl (Nat.le_of_ble_eq_true rfl) rfl ?_
      intro r16 h17 s19
      obtain ⟨x20, rfl, Q⟩ := Q _ _ s19
      refine z_bipush (pc := 21) (a := -5) dX7_sumOfCells_21 rfl ?_
      refine z_icmp_ne (pc := 23) (tgt := 30) dX7_sumOfCells_23 (by decide) (fun c => ?_) (fun c => ?_)
      · replace Q := Q.1 c
        refine z_iconst (pc := 30) (a := 1) dX7_sumOfCells_30 rfl ?_
        refine z_goto (pc := 31) (tgt := 58) dX7_sumOfCells_31 (by decide) ?_
        refine z_iadd (pc := 58) dX7_sumOfCells_58 ?_
        refine z_top (fun x21 ex21 => ?_)
        replace Q := Q x21 ex21
        refine z_istore_n (pc := 59) (ls' := [(2, _), (0, _), (1, _), (3, _)]) dX7_sumOfCells_59 rfl (by decide) rfl ?_
        refine z_iincg (pc := 60) (n := 3) (lf := fun y => [(3, zI y), (2, _), (0, _), (1, _)]) dX7_sumOfCells_60 rfl (by decide) (fun _ => rfl) (fun x22 ex22 => ?_)
        replace Q := Q x22 ex22
        refine z_goto (pc := 63) (tgt := 4) dX7_sumOfCells_63 (by decide) ?_
        exact z_sub (ks := [2, 3, 1, 0]) rfl Q
      · replace Q := Q.2 c
        refine z_iconst (pc := 26) (a := 0) dX7_sumOfCells_26 rfl ?_
        refine z_goto (pc := 27) (tgt := 58) dX7_sumOfCells_27 (by decide) ?_
        refine z_iadd (pc := 58) dX7_sumOfCells_58 ?_
        refine z_top (fun x23 ex23 => ?_)
        replace Q := Q x23 ex23
        refine z_istore_n (pc := 59) (ls' := [(2, _), (0, _), (1, _), (3, _)]) dX7_sumOfCells_59 rfl (by decide) rfl ?_
        refine z_iincg (pc := 60) (n := 3) (lf := fun y => [(3, zI y), (2, _), (0, _), (1, _)]) dX7_sumOfCells_60 rfl (by decide) (fun _ => rfl) (fun x24 ex24 => ?_)
        replace Q := Q x24 ex24
        refine z_goto (pc := 63) (tgt := 4) dX7_sumOfCells_63 (by decide) ?_
        exact z_sub (ks := [2, 3, 1, 0]) rfl Q
set_option maxHeartbeats 4000000 in
set_option maxRecDepth 100000 in
theorem k_X7_type_0 {d : Nat} {Post : Option zA → zH → Prop} {Γ : zCx} {h : zH} {a1 : Int}  (hd : 1 ≤ d) (Q :
 ((¬ (h 128 8) = 60 →
  0 ≤ (h 128 8) ∧ (h 128 8) < 60 ∧
  ∀ h3 : zH, h3 = zu h 134 (h 128 8).toNat a1 →
  ∀ h4 : zH, h4 = zu h3 128 8 (zwr ((h3 128 8) + 1)) →
  Post (some (zI (h4 128 8))) h4) ∧
 ((h 128 8) = 60 →
  Post (some (zI (-3))) h))) :
    zV RX7 cX7_type 2 (some .int) d Post Γ 0 [(0, zR 128), (1, zI a1)] [] h := by
  refine z_aload_n (pc := 0) (n := 0) dX7_type_0 rfl rfl ?_
  refine z_getI (pc := 1) zo_Model rfl inT7 (i := 8) (by decide) wf_X7_148 rfl (fun _ _ => rfl) dX7_type_1 ?_
  refine z_bipush (pc := 4) (a := 60) dX7_type_4 rfl ?_
  refine z_icmp_ne (pc := 6) (tgt := 12) dX7_type_6 (by decide) (fun c => ?_) (fun c => ?_)
  · replace Q := Q.1 c
    refine z_aload_n (pc := 12) (n := 0) dX7_type_12 rfl rfl ?_
    refine z_getR (pc := 13) (q2 := 134) zo_Model rfl inT7 (i := 7) (by decide) wf_X7_25 rfl (fun _ _ => rfl) dX7_type_13 ?_
    refine z_aload_n (pc := 16) (n := 0) dX7_type_16 rfl rfl ?_
    refine z_getI (pc := 17) zo_Model rfl inT7 (i := 8) (by decide) wf_X7_148 rfl (fun _ _ => rfl) dX7_type_17 ?_
    refine z_iload_n (pc := 20) (n := 1) dX7_type_20 rfl rfl ?_
    obtain ⟨c1, c2, Q⟩ := Q
    refine z_iast (pc := 21) za_mtext c1 c2 dX7_type_21 ?_
    refine z_heap (fun h3 eh3 => ?_)
    replace Q := Q h3 eh3
    refine z_aload_n (pc := 22) (n := 0) dX7_type_22 rfl rfl ?_
    refine z_dup (pc := 23) dX7_type_23 rfl ?_
    refine z_getI (pc := 24) zo_Model rfl inT7 (i := 8) (by decide) wf_X7_148 rfl (fun _ _ => rfl) dX7_type_24 ?_
    refine z_iconst (pc := 27) (a := 1) dX7_type_27 rfl ?_
    refine z_iadd (pc := 28) dX7_type_28 ?_
    refine z_putI (pc := 29) zo_Model rfl inT7 (i := 8) (by decide) wf_X7_148 rfl tyX7 tyX7_ok nmX7 rfl (fun _ _ => Nat.le_of_ble_eq_true rfl) (fun _ _ _ => rfl) rfl dX7_type_29 ?_
    refine z_heap (fun h4 eh4 => ?_)
    replace Q := Q h4 eh4
    refine z_aload_n (pc := 32) (n := 0) dX7_type_32 rfl rfl ?_
    refine z_getI (pc := 33) zo_Model rfl inT7 (i := 8) (by decide) wf_X7_148 rfl (fun _ _ => rfl) dX7_type_33 ?_
    exact z_iret (pc := 36) rfl dX7_type_36 Q
  · replace Q := Q.2 c
    refine z_bipush (pc := 9) (a := -3) dX7_type_9 rfl ?_
    exact z_iret (pc := 11) rfl dX7_type_11 Q
set_option maxHeartbeats 4000000 in
set_option maxRecDepth 100000 in
theorem k_X7_undo_0 {d : Nat} {Post : Option zA → zH → Prop} {Γ : zCx} {h : zH}   (hd : 1 ≤ d) (Q :
 ((¬ (h 128 4) = 0 →
  ∀ h1 : zH, h1 = zu h 128 4 (zwr ((h 128 4) - 1)) →
  zV RX7 cX7_undo 2 (some .int) d Post Γ 22 [(0, zR 128), (1, zI 0)] [] h1) ∧
 ((h 128 4) = 0 →
  Post (some (zI (-5))) h))) :
    zV RX7 cX7_undo 2 (some .int) d Post Γ 0 [(0, zR 128)] [] h := by
  refine z_aload_n (pc := 0) (n := 0) dX7_undo_0 rfl rfl ?_
  refine z_getI (pc := 1) zo_Model rfl inT7 (i := 4) (by decide) wf_X7_66 rfl (fun _ _ => rfl) dX7_undo_1 ?_
  refine z_if_ne (pc := 4) (tgt := 10) dX7_undo_4 (by decide) (fun c => ?_) (fun c => ?_)
  · replace Q := Q.1 c
    refine z_aload_n (pc := 10) (n := 0) dX7_undo_10 rfl rfl ?_
    refine z_dup (pc := 11) dX7_undo_11 rfl ?_
    refine z_getI (pc := 12) zo_Model rfl inT7 (i := 4) (by decide) wf_X7_66 rfl (fun _ _ => rfl) dX7_undo_12 ?_
    refine z_iconst (pc := 15) (a := 1) dX7_undo_15 rfl ?_
    refine z_isub (pc := 16) dX7_undo_16 ?_
    refine z_putI (pc := 17) zo_Model rfl inT7 (i := 4) (by decide) wf_X7_66 rfl tyX7 tyX7_ok nmX7 rfl (fun _ _ => Nat.le_of_ble_eq_true rfl) (fun _ _ _ => rfl) rfl dX7_undo_17 ?_
    refine z_heap (fun h1 eh1 => ?_)
    replace Q := Q h1 eh1
    refine z_iconst (pc := 20) (a := 0) dX7_undo_20 rfl ?_
    refine z_istore_n (pc := 21) (ls' := [(1, _), (0, _)]) dX7_undo_21 rfl (by decide) rfl ?_
    exact z_sub (ks := [1, 0]) rfl Q
  · replace Q := Q.2 c
    refine z_bipush (pc := 7) (a := -5) dX7_undo_7 rfl ?_
    exact z_iret (pc := 9) rfl dX7_undo_9 Q
set_option maxHeartbeats 4000000 in
set_option maxRecDepth 100000 in
theorem k_X7_undo_22 {d : Nat} {Post : Option zA → zH → Prop} {Γ : zCx} {h : zH} {v1 : Int}  (hd : 1 ≤ d) (Q :
 ((336 ≤ v1 →
  Post (some (zI (h 128 4))) h) ∧
 (¬ 336 ≤ v1 →
  0 ≤ (zwr ((zwr (336 * (h 128 4))) + v1)) ∧ (zwr ((zwr (336 * (h 128 4))) + v1)) < 1344 ∧
  0 ≤ v1 ∧ v1 < 336 ∧
  ∀ h5 : zH, h5 = zu h 129 v1.toNat (h 132 (zwr ((zwr (336 * (h 128 4))) + v1)).toNat) →
  ∀ x6 : Int, x6 = zwr (v1 + 1) →
  zV RX7 cX7_undo 2 (some .int) d Post Γ 22 [(0, zR 128), (1, zI x6)] [] h5))) :
    zV RX7 cX7_undo 2 (some .int) d Post Γ 22 [(0, zR 128), (1, zI v1)] [] h := by
  refine z_iload_n (pc := 22) (n := 1) dX7_undo_22 rfl rfl ?_
  refine z_sipush (pc := 23) (a := 336) dX7_undo_23 rfl ?_
  refine z_icmp_ge (pc := 26) (tgt := 56) dX7_undo_26 (by decide) (fun c => ?_) (fun c => ?_)
  · replace Q := Q.1 c
    refine z_aload_n (pc := 56) (n := 0) dX7_undo_56 rfl rfl ?_
    refine z_getI (pc := 57) zo_Model rfl inT7 (i := 4) (by decide) wf_X7_66 rfl (fun _ _ => rfl) dX7_undo_57 ?_
    exact z_iret (pc := 60) rfl dX7_undo_60 Q
  · replace Q := Q.2 c
    refine z_aload_n (pc := 29) (n := 0) dX7_undo_29 rfl rfl ?_
    refine z_getR (pc := 30) (q2 := 129) zo_Model rfl inT7 (i := 0) (by decide) wf_X7_7 rfl (fun _ _ => rfl) dX7_undo_30 ?_
    refine z_iload_n (pc := 33) (n := 1) dX7_undo_33 rfl rfl ?_
    refine z_aload_n (pc := 34) (n := 0) dX7_undo_34 rfl rfl ?_
    refine z_getR (pc := 35) (q2 := 132) zo_Model rfl inT7 (i := 3) (by decide) wf_X7_19 rfl (fun _ _ => rfl) dX7_undo_35 ?_
    refine z_sipush (pc := 38) (a := 336) dX7_undo_38 rfl ?_
    refine z_aload_n (pc := 41) (n := 0) dX7_undo_41 rfl rfl ?_
    refine z_getI (pc := 42) zo_Model rfl inT7 (i := 4) (by decide) wf_X7_66 rfl (fun _ _ => rfl) dX7_undo_42 ?_
    refine z_imul (pc := 45) dX7_undo_45 ?_
    refine z_iload_n (pc := 46) (n := 1) dX7_undo_46 rfl rfl ?_
    refine z_iadd (pc := 47) dX7_undo_47 ?_
    obtain ⟨c1, c2, Q⟩ := Q
    refine z_iald (pc := 48) za_mbefore c1 c2 dX7_undo_48 ?_
    obtain ⟨c3, c4, Q⟩ := Q
    refine z_iast (pc := 49) za_ms c3 c4 dX7_undo_49 ?_
    refine z_heap (fun h5 eh5 => ?_)
    replace Q := Q h5 eh5
    refine z_iincg (pc := 50) (n := 1) (lf := fun y => [(1, zI y), (0, _)]) dX7_undo_50 rfl (by decide) (fun _ => rfl) (fun x6 ex6 => ?_)
    replace Q := Q x6 ex6
    refine z_goto (pc := 53) (tgt := 22) dX7_undo_53 (by decide) ?_
    exact z_sub (ks := [1, 0]) rfl Q
set_option maxHeartbeats 4000000 in
set_option maxRecDepth 100000 in
theorem k_X7_wholeOf_0 {d : Nat} {Post : Option zA → zH → Prop} {Γ : zCx} {h : zH} {a1 : Int}  (hd : 1 ≤ d) (Q :
 zV RX7 cX7_wholeOf 4 (some .int) d Post Γ 5 [(0, zR 128), (1, zI a1), (2, zI (-5)), (3, zI 0)] [] h) :
    zV RX7 cX7_wholeOf 4 (some .int) d Post Γ 0 [(0, zR 128), (1, zI a1)] [] h := by
  refine z_bipush (pc := 0) (a := -5) dX7_wholeOf_0 rfl ?_
  refine z_istore_n (pc := 2) (ls' := [(2, _), (0, _), (1, _)]) dX7_wholeOf_2 rfl (by decide) rfl ?_
  refine z_iconst (pc := 3) (a := 0) dX7_wholeOf_3 rfl ?_
  refine z_istore_n (pc := 4) (ls' := [(3, _), (2, _), (0, _), (1, _)]) dX7_wholeOf_4 rfl (by decide) rfl ?_
  exact z_sub (ks := [2, 3, 1, 0]) rfl Q
set_option maxHeartbeats 4000000 in
set_option maxRecDepth 100000 in
theorem k_X7_wholeOf_5 {d : Nat} {Post : Option zA → zH → Prop} {Γ : zCx} {h : zH} {v1 : Int} {v2 : Int} {v3 : Int}  (hd : 2 ≤ d) (Q :
 ((6 ≤ v3 →
  Post (some (zI v2)) h) ∧
 (¬ 6 ≤ v3 →
  (0 ≤ v3 ∧ v3 ≤ 5) ∧
  (0 ≤ v1 ∧ v1 ≤ 5) ∧
  0 ≤ (6 * v1 + v3) ∧ (6 * v1 + v3) < 336 ∧
  ((¬ (h 129 (6 * v1 + v3).toNat) = 64 →
   ∀ x5 : Int, x5 = zwr (v3 + 1) →
   zV RX7 cX7_wholeOf 4 (some .int) d Post Γ 5 [(0, zR 128), (1, zI v1), (2, zI v2), (3, zI x5)] [] h) ∧
  ((h 129 (6 * v1 + v3).toNat) = 64 →
   ∀ x6 : Int, x6 = zwr (v3 + 1) →
   zV RX7 cX7_wholeOf 4 (some .int) d Post Γ 5 [(0, zR 128), (1, zI v1), (2, zI v3), (3, zI x6)] [] h))))) :
    zV RX7 cX7_wholeOf 4 (some .int) d Post Γ 5 [(0, zR 128), (1, zI v1), (2, zI v2), (3, zI v3)] [] h := by
  refine z_iload_n (pc := 5) (n := 3) dX7_wholeOf_5 rfl rfl ?_
  refine z_bipush (pc := 6) (a := 6) dX7_wholeOf_6 rfl ?_
  refine z_icmp_ge (pc := 8) (tgt := 38) dX7_wholeOf_8 (by decide) (fun c => ?_) (fun c => ?_)
  · replace Q := Q.1 c
    refine z_iload_n (pc := 38) (n := 2) dX7_wholeOf_38 rfl rfl ?_
    exact z_iret (pc := 39) rfl dX7_wholeOf_39 Q
  · replace Q := Q.2 c
    refine z_aload_n (pc := 11) (n := 0) dX7_wholeOf_11 rfl rfl ?_
    refine z_getR (pc := 12) (q2 := 129) zo_Model rfl inT7 (i := 0) (by decide) wf_X7_7 rfl (fun _ _ => rfl) dX7_wholeOf_12 ?_
    refine z_iload_n (pc := 15) (n := 3) dX7_wholeOf_15 rfl rfl ?_
    refine z_iload_n (pc := 16) (n := 1) dX7_wholeOf_16 rfl rfl ?_
    obtain ⟨c1, Q⟩ := Q
    obtain ⟨c2, Q⟩ := Q
    refine z_callS (pc := 17) (M := mX7_held) (as := [_, _]) (st := [_]) (c_X7_held c1 c2) wt_X7_held wm_X7_held ⟨by omega, by decide⟩ wl_X7_51 dX7_wholeOf_17 rfl (Nat.le_of_ble_eq_true rfl) rfl ?_
    rintro _ _ ⟨rfl, rfl⟩
    obtain ⟨c3, c4, Q⟩ := Q
    refine z_iald (pc := 20) za_ms c3 c4 dX7_wholeOf_20 ?_
    refine z_bipush (pc := 21) (a := 64) dX7_wholeOf_21 rfl ?_
    refine z_icmp_ne (pc := 23) (tgt := 30) dX7_wholeOf_23 (by decide) (fun c => ?_) (fun c => ?_)
    · replace Q := Q.1 c
      refine z_iload_n (pc := 30) (n := 2) dX7_wholeOf_30 rfl rfl ?_
      refine z_istore_n (pc := 31) (ls' := [(2, _), (0, _), (1, _), (3, _)]) dX7_wholeOf_31 rfl (by decide) rfl ?_
      refine z_iincg (pc := 32) (n := 3) (lf := fun y => [(3, zI y), (2, _), (0, _), (1, _)]) dX7_wholeOf_32 rfl (by decide) (fun _ => rfl) (fun x5 ex5 => ?_)
      replace Q := Q x5 ex5
      refine z_goto (pc := 35) (tgt := 5) dX7_wholeOf_35 (by decide) ?_
      exact z_sub (ks := [2, 3, 1, 0]) rfl Q
    · replace Q := Q.2 c
      refine z_iload_n (pc := 26) (n := 3) dX7_wholeOf_26 rfl rfl ?_
      refine z_goto (pc := 27) (tgt := 31) dX7_wholeOf_27 (by decide) ?_
      refine z_istore_n (pc := 31) (ls' := [(2, _), (0, _), (1, _), (3, _)]) dX7_wholeOf_31 rfl (by decide) rfl ?_
      refine z_iincg (pc := 32) (n := 3) (lf := fun y => [(3, zI y), (2, _), (0, _), (1, _)]) dX7_wholeOf_32 rfl (by decide) (fun _ => rfl) (fun x6 ex6 => ?_)
      replace Q := Q x6 ex6
      refine z_goto (pc := 35) (tgt := 5) dX7_wholeOf_35 (by decide) ?_
      exact z_sub (ks := [2, 3, 1, 0]) rfl Q
set_option maxHeartbeats 4000000 in
set_option maxRecDepth 100000 in
theorem k_X7_wouldGather_0 {d : Nat} {Post : Option zA → zH → Prop} {Γ : zCx} {h : zH} {a1 : Int} {a2 : Int}  (hd : 1 ≤ d) (Q :
 zV RX7 cX7_wouldGather 6 (some .int) d Post Γ 2 [(0, zR 128), (1, zI a1), (2, zI a2), (3, zI 0)] [] h) :
    zV RX7 cX7_wouldGather 6 (some .int) d Post Γ 0 [(0, zR 128), (1, zI a1), (2, zI a2)] [] h := by
  refine z_iconst (pc := 0) (a := 0) dX7_wouldGather_0 rfl ?_
  refine z_istore_n (pc := 1) (ls' := [(3, _), (0, _), (1, _), (2, _)]) dX7_wouldGather_1 rfl (by decide) rfl ?_
  exact z_sub (ks := [1, 2, 3, 0]) rfl Q
set_option maxHeartbeats 4000000 in
set_option maxRecDepth 100000 in
theorem k_X7_wouldGather_2 {d : Nat} {Post : Option zA → zH → Prop} {Γ : zCx} {h : zH} {v1 : Int} {v2 : Int} {v3 : Int}  (hd : 2 ≤ d) (Q :
 ((336 ≤ v3 →
  ∃ (d1 : Nat) (P2 : Option zA → zH → Prop), d1 + 1 ≤ d ∧ zSp d1 mX7_gathers [zR 128, zI v1, zI v2] h P2 ∧ ∀ r3 h4, P2 r3 h4 →
  ∃ x7 : Int, r3 = some (zI x7) ∧
  (0 ≤ v1 ∧ v1 ≤ 5) ∧
  (0 ≤ v2 ∧ v2 ≤ 5) ∧
  0 ≤ (6 * v2 + v1) ∧ (6 * v2 + v1) < 336 ∧
  ∀ x12 : Int, x12 = (h4 129 (6 * v2 + v1).toNat) →
  zV RX7 cX7_wouldGather 6 (some .int) d Post Γ 49 [(0, zR 128), (1, zI v1), (2, zI v2), (3, zI x7), (4, zI x12), (5, zI 0)] [] h4) ∧
 (¬ 336 ≤ v3 →
  0 ≤ v3 ∧ v3 < 336 ∧
  0 ≤ v3 ∧ v3 < 336 ∧
  ∀ h17 : zH, h17 = zu h 131 v3.toNat (h 129 v3.toNat) →
  ∀ x18 : Int, x18 = zwr (v3 + 1) →
  zV RX7 cX7_wouldGather 6 (some .int) d Post Γ 2 [(0, zR 128), (1, zI v1), (2, zI v2), (3, zI x18)] [] h17))) :
    zV RX7 cX7_wouldGather 6 (some .int) d Post Γ 2 [(0, zR 128), (1, zI v1), (2, zI v2), (3, zI v3)] [] h := by
  refine z_iload_n (pc := 2) (n := 3) dX7_wouldGather_2 rfl rfl ?_
  refine z_sipush (pc := 3) (a := 336) dX7_wouldGather_3 rfl ?_
  refine z_icmp_ge (pc := 6) (tgt := 27) dX7_wouldGather_6 (by decide) (fun c => ?_) (fun c => ?_)
  · replace Q := Q.1 c
    refine z_aload_n (pc := 27) (n := 0) dX7_wouldGather_27 rfl rfl ?_
    refine z_iload_n (pc := 28) (n := 1) dX7_wouldGather_28 rfl rfl ?_
    refine z_iload_n (pc := 29) (n := 2) dX7_wouldGather_29 rfl rfl ?_
    obtain ⟨d1, P2, e5, s6, Q⟩ := Q
    refine z_callV (pc := 30) (M := mX7_gathers) (as := [_, _]) (st := []) s6 zo_Model rfl wi_X7_gathers wm_X7_gathers ⟨by omega, by decide⟩ wl_X7_99 dX7_wouldGather_30 rfl (Nat.le_of_ble_eq_true rfl) rfl ?_
    intro r3 h4 s6
    obtain ⟨x7, rfl, Q⟩ := Q _ _ s6
    refine z_istore_n (pc := 33) (ls' := [(3, _), (0, _), (1, _), (2, _)]) dX7_wouldGather_33 rfl (by decide) rfl ?_
    refine z_aload_n (pc := 34) (n := 1) dX7_wouldGather_34 rfl rfl ?_
    refine z_getR (pc := 35) (q2 := 129) zo_Model rfl inT7 (i := 0) (by decide) wf_X7_7 rfl (fun _ _ => rfl) dX7_wouldGather_35 ?_
    refine z_iload_n (pc := 38) (n := 2) dX7_wouldGather_38 rfl rfl ?_
    refine z_iload_n (pc := 39) (n := 3) dX7_wouldGather_39 rfl rfl ?_
    obtain ⟨c8, Q⟩ := Q
    obtain ⟨c9, Q⟩ := Q
    refine z_callS (pc := 40) (M := mX7_held) (as := [_, _]) (st := [_]) (c_X7_held c8 c9) wt_X7_held wm_X7_held ⟨by omega, by decide⟩ wl_X7_51 dX7_wouldGather_40 rfl (Nat.le_of_ble_eq_true rfl) rfl ?_
    rintro _ _ ⟨rfl, rfl⟩
    obtain ⟨c10, c11, Q⟩ := Q
    refine z_iald (pc := 43) za_ms c10 c11 dX7_wouldGather_43 ?_
    refine z_top (fun x12 ex12 => ?_)
    replace Q := Q x12 ex12
    refine z_istore (pc := 44) (ls' := [(4, _), (3, _), (0, _), (1, _), (2, _)]) dX7_wouldGather_44 (by decide) rfl ?_
    refine z_iconst (pc := 46) (a := 0) dX7_wouldGather_46 rfl ?_
    refine z_istore (pc := 47) (ls' := [(5, _), (4, _), (3, _), (0, _), (1, _), (2, _)]) dX7_wouldGather_47 (by decide) rfl ?_
    exact z_sub (ks := [3, 4, 5, 2, 1, 0]) rfl Q
  · replace Q := Q.2 c
    refine z_aload_n (pc := 9) (n := 0) dX7_wouldGather_9 rfl rfl ?_
    refine z_getR (pc := 10) (q2 := 131) zo_Model rfl inT7 (i := 2) (by decide) wf_X7_16 rfl (fun _ _ => rfl) dX7_wouldGather_10 ?_
    refine z_iload_n (pc := 13) (n := 3) dX7_wouldGather_13 rfl rfl ?_
    refine z_aload_n (pc := 14) (n := 0) dX7_wouldGather_14 rfl rfl ?_
    refine z_getR (pc := 15) (q2 := 129) zo_Model rfl inT7 (i := 0) (by decide) wf_X7_7 rfl (fun _ _ => rfl) dX7_wouldGather_15 ?_
    refine z_iload_n (pc := 18) (n := 3) dX7_wouldGather_18 rfl rfl ?_
    obtain ⟨c13, c14, Q⟩ := Q
    refine z_iald (pc := 19) za_ms c13 c14 dX7_wouldGather_19 ?_
    obtain ⟨c15, c16, Q⟩ := Q
    refine z_iast (pc := 20) za_masideToo c15 c16 dX7_wouldGather_20 ?_
    refine z_heap (fun h17 eh17 => ?_)
    replace Q := Q h17 eh17
    refine z_iincg (pc := 21) (n := 3) (lf := fun y => [(3, zI y), (0, _), (1, _), (2, _)]) dX7_wouldGather_21 rfl (by decide) (fun _ => rfl) (fun x18 ex18 => ?_)
    replace Q := Q x18 ex18
    refine z_goto (pc := 24) (tgt := 2) dX7_wouldGather_24 (by decide) ?_
    exact z_sub (ks := [1, 2, 3, 0]) rfl Q
set_option maxHeartbeats 4000000 in
set_option maxRecDepth 100000 in
theorem k_X7_wouldGather_49 {d : Nat} {Post : Option zA → zH → Prop} {Γ : zCx} {h : zH} {v1 : Int} {v2 : Int} {v3 : Int} {v4 : Int} {v5 : Int}  (hd : 1 ≤ d) (Q :
 ((336 ≤ v5 →
  Post (some (zI v4)) h) ∧
 (¬ 336 ≤ v5 →
  0 ≤ v5 ∧ v5 < 336 ∧
  0 ≤ v5 ∧ v5 < 336 ∧
  ∀ h5 : zH, h5 = zu h 129 v5.toNat (h 131 v5.toNat) →
  ∀ x6 : Int, x6 = zwr (v5 + 1) →
  zV RX7 cX7_wouldGather 6 (some .int) d Post Γ 49 [(0, zR 128), (1, zI v1), (2, zI v2), (3, zI v3), (4, zI v4), (5, zI x6)] [] h5))) :
    zV RX7 cX7_wouldGather 6 (some .int) d Post Γ 49 [(0, zR 128), (1, zI v1), (2, zI v2), (3, zI v3), (4, zI v4), (5, zI v5)] [] h := by
  refine z_iload (pc := 49) (n := 5) dX7_wouldGather_49 rfl ?_
  refine z_sipush (pc := 51) (a := 336) dX7_wouldGather_51 rfl ?_
  refine z_icmp_ge (pc := 54) (tgt := 77) dX7_wouldGather_54 (by decide) (fun c => ?_) (fun c => ?_)
  · replace Q := Q.1 c
    refine z_iload (pc := 77) (n := 4) dX7_wouldGather_77 rfl ?_
    exact z_iret (pc := 79) rfl dX7_wouldGather_79 Q
  · replace Q := Q.2 c
    refine z_aload_n (pc := 57) (n := 0) dX7_wouldGather_57 rfl rfl ?_
    refine z_getR (pc := 58) (q2 := 129) zo_Model rfl inT7 (i := 0) (by decide) wf_X7_7 rfl (fun _ _ => rfl) dX7_wouldGather_58 ?_
    refine z_iload (pc := 61) (n := 5) dX7_wouldGather_61 rfl ?_
    refine z_aload_n (pc := 63) (n := 0) dX7_wouldGather_63 rfl rfl ?_
    refine z_getR (pc := 64) (q2 := 131) zo_Model rfl inT7 (i := 2) (by decide) wf_X7_16 rfl (fun _ _ => rfl) dX7_wouldGather_64 ?_
    refine z_iload (pc := 67) (n := 5) dX7_wouldGather_67 rfl ?_
    obtain ⟨c1, c2, Q⟩ := Q
    refine z_iald (pc := 69) za_masideToo c1 c2 dX7_wouldGather_69 ?_
    obtain ⟨c3, c4, Q⟩ := Q
    refine z_iast (pc := 70) za_ms c3 c4 dX7_wouldGather_70 ?_
    refine z_heap (fun h5 eh5 => ?_)
    replace Q := Q h5 eh5
    refine z_iincg (pc := 71) (n := 5) (lf := fun y => [(5, zI y), (0, _), (1, _), (2, _), (3, _), (4, _)]) dX7_wouldGather_71 rfl (by decide) (fun _ => rfl) (fun x6 ex6 => ?_)
    replace Q := Q x6 ex6
    refine z_goto (pc := 74) (tgt := 49) dX7_wouldGather_74 (by decide) ?_
    exact z_sub (ks := [1, 2, 3, 4, 5, 0]) rfl Q
set_option maxHeartbeats 4000000 in
set_option maxRecDepth 100000 in
theorem k_X7_write_0 {d : Nat} {Post : Option zA → zH → Prop} {Γ : zCx} {h : zH} {a1 : Int} {a2 : Int} {a3 : Int}  (hd : 1 ≤ d) (Q :
 ∃ (d1 : Nat) (P2 : Option zA → zH → Prop), d1 + 1 ≤ d ∧ zSp d1 mX7_writeFault [zR 128, zI a1, zI a2, zI a3] h P2 ∧ ∀ r3 h4, P2 r3 h4 →
 ∃ x7 : Int, r3 = some (zI x7) ∧
 ((0 ≤ x7 →
  ∃ (d8 : Nat) (P9 : Option zA → zH → Prop), d8 + 1 ≤ d ∧ zSp d8 mX7_know [zR 128] h4 P9 ∧ ∀ r10 h11, P9 r10 h11 →
  r10 = none ∧
  ∃ (d14 : Nat) (P15 : Option zA → zH → Prop), d14 + 1 ≤ d ∧ zSp d14 mX7_writes [zR 128, zI a2, zI a3] h11 P15 ∧ ∀ r16 h17, P15 r16 h17 →
  ∃ x20 : Int, r16 = some (zI x20) ∧
  Post (some (zI x20)) h17) ∧
 (¬ 0 ≤ x7 →
  Post (some (zI x7)) h4))) :
    zV RX7 cX7_write 5 (some .int) d Post Γ 0 [(0, zR 128), (1, zI a1), (2, zI a2), (3, zI a3)] [] h := by
  refine z_aload_n (pc := 0) (n := 0) dX7_write_0 rfl rfl ?_
  refine z_iload_n (pc := 1) (n := 1) dX7_write_1 rfl rfl ?_
  refine z_iload_n (pc := 2) (n := 2) dX7_write_2 rfl rfl ?_
  refine z_iload_n (pc := 3) (n := 3) dX7_write_3 rfl rfl ?_
  obtain ⟨d1, P2, e5, s6, Q⟩ := Q
  refine z_callV (pc := 4) (M := mX7_writeFault) (as := [_, _, _]) (st := []) s6 zo_Model rfl wi_X7_writeFault wm_X7_writeFault ⟨by omega, by decide⟩ wl_X7_129 dX7_write_4 rfl (Nat.le_of_ble_eq_true rfl) rfl ?_
  intro r3 h4 s6
  obtain ⟨x7, rfl, Q⟩ := Q _ _ s6
  refine z_istore (pc := 7) (ls' := [(4, _), (0, _), (1, _), (2, _), (3, _)]) dX7_write_7 (by decide) rfl ?_
  refine z_iload (pc := 9) (n := 0) dX7_write_9 rfl ?_
  refine z_if_ge (pc := 11) (tgt := 17) dX7_write_11 (by decide) (fun c => ?_) (fun c => ?_)
  · replace Q := Q.1 c
    refine z_aload_n (pc := 17) (n := 1) dX7_write_17 rfl rfl ?_
    obtain ⟨d8, P9, e12, s13, Q⟩ := Q
    refine z_callV (pc := 18) (M := mX7_know) (as := []) (st := []) s13 zo_Model rfl wi_X7_know wm_X7_know ⟨by omega, by decide⟩ wl_X7_114 dX7_write_18 rfl (Nat.le_of_ble_eq_true rfl) rfl ?_
    intro r10 h11 s13
    obtain ⟨rfl, Q⟩ := Q _ _ s13
    refine z_aload_n (pc := 21) (n := 1) dX7_write_21 rfl rfl ?_
    refine z_iload_n (pc := 22) (n := 3) dX7_write_22 rfl rfl ?_
    refine z_iload_n (pc := 23) (n := 4) dX7_write_23 rfl rfl ?_
    obtain ⟨d14, P15, e18, s19, Q⟩ := Q
    refine z_callV (pc := 24) (M := mX7_writes) (as := [_, _]) (st := []) s19 zo_Model rfl wi_X7_writes wm_X7_writes ⟨by omega, by decide⟩ wl_X7_132 dX7_write_24 rfl (Nat.le_of_ble_eq_true rfl) rfl ?_
    intro r16 h17 s19
    obtain ⟨x20, rfl, Q⟩ := Q _ _ s19
    exact z_iret (pc := 27) rfl dX7_write_27 Q
  · replace Q := Q.2 c
    refine z_iload (pc := 14) (n := 0) dX7_write_14 rfl ?_
    exact z_iret (pc := 16) rfl dX7_write_16 Q
set_option maxHeartbeats 4000000 in
set_option maxRecDepth 100000 in
theorem k_X7_writeFault_0 {d : Nat} {Post : Option zA → zH → Prop} {Γ : zCx} {h : zH} {a1 : Int} {a2 : Int} {a3 : Int}  (hd : 4 ≤ d) (Q :
 (((0 ≤ a1 ∧ a1 ≤ 5) ∧ 0 ≤ a2 ∧ a2 ≤ 5 →
  ((0 ≤ a3 ∧ a3 ≤ 999 →
   (0 ≤ a1 ∧ a1 ≤ 5) ∧
   (0 ≤ a2 ∧ a2 ≤ 5) ∧
   0 ≤ (6 * a2 + a1) ∧ (6 * a2 + a1) < 336 ∧
   ((64 ≤ (h 129 (6 * a2 + a1).toNat) →
    Post (some (zI 0)) h) ∧
   (¬ 64 ≤ (h 129 (6 * a2 + a1).toNat) →
    Post (some (zI (-4))) h))) ∧
  (¬ (0 ≤ a3 ∧ a3 ≤ 999) →
   Post (some (zI (-2))) h))) ∧
 (¬ ((0 ≤ a1 ∧ a1 ≤ 5) ∧ 0 ≤ a2 ∧ a2 ≤ 5) →
  Post (some (zI (-1))) h))) :
    zV RX7 cX7_writeFault 4 (some .int) d Post Γ 0 [(0, zR 128), (1, zI a1), (2, zI a2), (3, zI a3)] [] h := by
  refine z_iload_n (pc := 0) (n := 1) dX7_writeFault_0 rfl rfl ?_
  refine z_iload_n (pc := 1) (n := 2) dX7_writeFault_1 rfl rfl ?_
  refine z_callS (pc := 2) (M := mX7_areBoth) (as := [_, _]) (st := []) c_X7_areBoth wt_X7_areBoth wm_X7_areBoth ⟨by omega, by decide⟩ wl_X7_106 dX7_writeFault_2 rfl (Nat.le_of_ble_eq_true rfl) rfl ?_
  rintro _ _ ⟨rfl, rfl⟩
  refine z_ifb_ne (pc := 5) (tgt := 10) dX7_writeFault_5 (by decide) (fun c => ?_) (fun c => ?_)
  · replace Q := Q.1 c
    refine z_iload_n (pc := 10) (n := 3) dX7_writeFault_10 rfl rfl ?_
    refine z_iconst (pc := 11) (a := 0) dX7_writeFault_11 rfl ?_
    refine z_sipush (pc := 12) (a := 999) dX7_writeFault_12 rfl ?_
    refine z_callS (pc := 15) (M := mX7_in) (as := [_, _, _]) (st := []) c_X7_in wt_X7_in wm_X7_in ⟨by omega, by decide⟩ wl_X7_55 dX7_writeFault_15 rfl (Nat.le_of_ble_eq_true rfl) rfl ?_
    rintro _ _ ⟨rfl, rfl⟩
    refine z_ifb_ne (pc := 18) (tgt := 26) dX7_writeFault_18 (by decide) (fun c => ?_) (fun c => ?_)
    · replace Q := Q.1 c
      refine z_aload_n (pc := 26) (n := 0) dX7_writeFault_26 rfl rfl ?_
      refine z_getR (pc := 27) (q2 := 129) zo_Model rfl inT7 (i := 0) (by decide) wf_X7_7 rfl (fun _ _ => rfl) dX7_writeFault_27 ?_
      refine z_iload_n (pc := 30) (n := 1) dX7_writeFault_30 rfl rfl ?_
      refine z_iload_n (pc := 31) (n := 2) dX7_writeFault_31 rfl rfl ?_
      obtain ⟨c1, Q⟩ := Q
      obtain ⟨c2, Q⟩ := Q
      refine z_callS (pc := 32) (M := mX7_held) (as := [_, _]) (st := [_]) (c_X7_held c1 c2) wt_X7_held wm_X7_held ⟨by omega, by decide⟩ wl_X7_51 dX7_writeFault_32 rfl (Nat.le_of_ble_eq_true rfl) rfl ?_
      rintro _ _ ⟨rfl, rfl⟩
      obtain ⟨c3, c4, Q⟩ := Q
      refine z_iald (pc := 35) za_ms c3 c4 dX7_writeFault_35 ?_
      refine z_bipush (pc := 36) (a := 64) dX7_writeFault_36 rfl ?_
      refine z_icmp_ge (pc := 38) (tgt := 46) dX7_writeFault_38 (by decide) (fun c => ?_) (fun c => ?_)
      · replace Q := Q.1 c
        refine z_iconst (pc := 46) (a := 0) dX7_writeFault_46 rfl ?_
        exact z_iret (pc := 47) rfl dX7_writeFault_47 Q
      · replace Q := Q.2 c
        refine z_bipush (pc := 41) (a := -4) dX7_writeFault_41 rfl ?_
        refine z_goto (pc := 43) (tgt := 47) dX7_writeFault_43 (by decide) ?_
        exact z_iret (pc := 47) rfl dX7_writeFault_47 Q
    · replace Q := Q.2 c
      refine z_bipush (pc := 21) (a := -2) dX7_writeFault_21 rfl ?_
      refine z_goto (pc := 23) (tgt := 47) dX7_writeFault_23 (by decide) ?_
      exact z_iret (pc := 47) rfl dX7_writeFault_47 Q
  · replace Q := Q.2 c
    refine z_iconst (pc := 8) (a := -1) dX7_writeFault_8 rfl ?_
    exact z_iret (pc := 9) rfl dX7_writeFault_9 Q
set_option maxHeartbeats 4000000 in
set_option maxRecDepth 100000 in
theorem k_X7_writes_0 {d : Nat} {Post : Option zA → zH → Prop} {Γ : zCx} {h : zH} {a1 : Int} {a2 : Int}  (hd : 1 ≤ d) (Q :
 0 ≤ (zwr (114 + a1)) ∧ (zwr (114 + a1)) < 336 ∧
 ∀ h3 : zH, h3 = zu h 129 (zwr (114 + a1)).toNat a2 →
 0 ≤ (zwr (120 + a1)) ∧ (zwr (120 + a1)) < 336 ∧
 0 ≤ (zwr (120 + a1)) ∧ (zwr (120 + a1)) < 336 ∧
 ∀ h8 : zH, h8 = zu h3 129 (zwr (120 + a1)).toNat (zwr ((h3 129 (zwr (120 + a1)).toNat) + 1)) →
 ∀ h9 : zH, h9 = zu h8 129 134 (zwr ((h8 129 134) + 1)) →
 0 ≤ (zwr (120 + a1)) ∧ (zwr (120 + a1)) < 336 ∧
 Post (some (zI (h9 129 (zwr (120 + a1)).toNat))) h9) :
    zV RX7 cX7_writes 3 (some .int) d Post Γ 0 [(0, zR 128), (1, zI a1), (2, zI a2)] [] h := by
  refine z_aload_n (pc := 0) (n := 0) dX7_writes_0 rfl rfl ?_
  refine z_getR (pc := 1) (q2 := 129) zo_Model rfl inT7 (i := 0) (by decide) wf_X7_7 rfl (fun _ _ => rfl) dX7_writes_1 ?_
  refine z_bipush (pc := 4) (a := 114) dX7_writes_4 rfl ?_
  refine z_iload_n (pc := 6) (n := 1) dX7_writes_6 rfl rfl ?_
  refine z_iadd (pc := 7) dX7_writes_7 ?_
  refine z_iload_n (pc := 8) (n := 2) dX7_writes_8 rfl rfl ?_
  obtain ⟨c1, c2, Q⟩ := Q
  refine z_iast (pc := 9) za_ms c1 c2 dX7_writes_9 ?_
  refine z_heap (fun h3 eh3 => ?_)
  replace Q := Q h3 eh3
  refine z_aload_n (pc := 10) (n := 0) dX7_writes_10 rfl rfl ?_
  refine z_getR (pc := 11) (q2 := 129) zo_Model rfl inT7 (i := 0) (by decide) wf_X7_7 rfl (fun _ _ => rfl) dX7_writes_11 ?_
  refine z_bipush (pc := 14) (a := 120) dX7_writes_14 rfl ?_
  refine z_iload_n (pc := 16) (n := 1) dX7_writes_16 rfl rfl ?_
  refine z_iadd (pc := 17) dX7_writes_17 ?_
  refine z_dup2 (pc := 18) dX7_writes_18 rfl rfl ?_
  obtain ⟨c4, c5, Q⟩ := Q
  refine z_iald (pc := 19) za_ms c4 c5 dX7_writes_19 ?_
  refine z_iconst (pc := 20) (a := 1) dX7_writes_20 rfl ?_
  refine z_iadd (pc := 21) dX7_writes_21 ?_
  obtain ⟨c6, c7, Q⟩ := Q
  refine z_iast (pc := 22) za_ms c6 c7 dX7_writes_22 ?_
  refine z_heap (fun h8 eh8 => ?_)
  replace Q := Q h8 eh8
  refine z_aload_n (pc := 23) (n := 0) dX7_writes_23 rfl rfl ?_
  refine z_getR (pc := 24) (q2 := 129) zo_Model rfl inT7 (i := 0) (by decide) wf_X7_7 rfl (fun _ _ => rfl) dX7_writes_24 ?_
  refine z_sipush (pc := 27) (a := 134) dX7_writes_27 rfl ?_
  refine z_dup2 (pc := 30) dX7_writes_30 rfl rfl ?_
  refine z_iald (pc := 31) za_ms (by decide) (by decide) dX7_writes_31 ?_
  refine z_iconst (pc := 32) (a := 1) dX7_writes_32 rfl ?_
  refine z_iadd (pc := 33) dX7_writes_33 ?_
  refine z_iast (pc := 34) za_ms (by decide) (by decide) dX7_writes_34 ?_
  refine z_heap (fun h9 eh9 => ?_)
  replace Q := Q h9 eh9
  refine z_aload_n (pc := 35) (n := 0) dX7_writes_35 rfl rfl ?_
  refine z_getR (pc := 36) (q2 := 129) zo_Model rfl inT7 (i := 0) (by decide) wf_X7_7 rfl (fun _ _ => rfl) dX7_writes_36 ?_
  refine z_bipush (pc := 39) (a := 120) dX7_writes_39 rfl ?_
  refine z_iload_n (pc := 41) (n := 1) dX7_writes_41 rfl rfl ?_
  refine z_iadd (pc := 42) dX7_writes_42 ?_
  obtain ⟨c10, c11, Q⟩ := Q
  refine z_iald (pc := 43) za_ms c10 c11 dX7_writes_43 ?_
  exact z_iret (pc := 44) rfl dX7_writes_44 Q
