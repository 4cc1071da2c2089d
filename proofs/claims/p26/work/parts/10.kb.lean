/-! walks of methods, from cut to cut (printed by wip/gen/genk.py) -/
set_option maxHeartbeats 4000000 in
set_option maxRecDepth 100000 in
theorem k_X4_canEndLoan_0 {d : Nat} {Post : Option zA → zH → Prop} {Γ : zCx} {h : zH} {b : Nat} {a1 : Int} (hb : zSt b) (hd : 2 ≤ d) (Q :
 0 ≤ a1 ∧ a1 < 40 ∧
 ∀ x3 : Int, x3 = (h (b + 12) a1.toNat) →
 0 ≤ a1 ∧ a1 < 40 ∧
 ∀ x6 : Int, x6 = (h (b + 13) a1.toNat) →
 (0 ≤ x3 ∧ x3 ≤ 5) ∧
 (0 ≤ x6 ∧ x6 ≤ 5) ∧
 0 ≤ a1 ∧ a1 < 40 ∧
 (((h (b + 4) (6 * x6 + x3).toNat) < (h (b + 14) a1.toNat) →
  Post (some (zI 0)) h) ∧
 (¬ (h (b + 4) (6 * x6 + x3).toNat) < (h (b + 14) a1.toNat) →
  (0 ≤ x3 ∧ x3 ≤ 5) ∧
  (0 ≤ x6 ∧ x6 ≤ 5) ∧
  ((¬ zand (h (b + 5) x6.toNat) (zshl 1 x3) = 0 →
   Post (some (zI 0)) h) ∧
  (¬ (¬ zand (h (b + 5) x6.toNat) (zshl 1 x3) = 0) →
   Post (some (zI 1)) h))))) :
    zV RX4 cX4_canEndLoan 4 (some .boolean) d Post Γ 0 [(0, zR b), (1, zI a1)] [] h := by
  refine z_aload_n (pc := 0) (n := 0) dX4_canEndLoan_0 rfl rfl ?_
  refine z_getR (pc := 1) (q2 := b + 9) (zo_State hb) rfl inT4 (i := 6) (by decide) wf_X4_37 rfl (fun _ _ => rfl) dX4_canEndLoan_1 ?_
  refine z_getR (pc := 4) (q2 := b + 12) (zo_Loans hb) rfl inT3 (i := 2) (by decide) wf_X4_101 rfl (fun _ _ => rfl) dX4_canEndLoan_4 ?_
  refine z_iload_n (pc := 7) (n := 1) dX4_canEndLoan_7 rfl rfl ?_
  obtain ⟨c1, c2, Q⟩ := Q
  refine z_iald (pc := 8) (za_borrower hb) c1 c2 dX4_canEndLoan_8 ?_
  refine z_top (fun x3 ex3 => ?_)
  replace Q := Q x3 ex3
  refine z_istore_n (pc := 9) (ls' := [(2, _), (0, _), (1, _)]) dX4_canEndLoan_9 rfl (by decide) rfl ?_
  refine z_aload_n (pc := 10) (n := 1) dX4_canEndLoan_10 rfl rfl ?_
  refine z_getR (pc := 11) (q2 := b + 9) (zo_State hb) rfl inT4 (i := 6) (by decide) wf_X4_37 rfl (fun _ _ => rfl) dX4_canEndLoan_11 ?_
  refine z_getR (pc := 14) (q2 := b + 13) (zo_Loans hb) rfl inT3 (i := 3) (by decide) wf_X4_98 rfl (fun _ _ => rfl) dX4_canEndLoan_14 ?_
  refine z_iload_n (pc := 17) (n := 2) dX4_canEndLoan_17 rfl rfl ?_
  obtain ⟨c4, c5, Q⟩ := Q
  refine z_iald (pc := 18) (za_lcell hb) c4 c5 dX4_canEndLoan_18 ?_
  refine z_top (fun x6 ex6 => ?_)
  replace Q := Q x6 ex6
  refine z_istore_n (pc := 19) (ls' := [(3, _), (2, _), (0, _), (1, _)]) dX4_canEndLoan_19 rfl (by decide) rfl ?_
  refine z_aload_n (pc := 20) (n := 2) dX4_canEndLoan_20 rfl rfl ?_
  refine z_iload_n (pc := 21) (n := 1) dX4_canEndLoan_21 rfl rfl ?_
  refine z_iload_n (pc := 22) (n := 0) dX4_canEndLoan_22 rfl rfl ?_
  obtain ⟨c7, Q⟩ := Q
  obtain ⟨c8, Q⟩ := Q
  refine z_callV (pc := 23) (M := mX4_heldBy) (as := [_, _]) (st := []) (c_X4_heldBy hb c7 c8) (zo_State hb) rfl wi_X4_heldBy wm_X4_heldBy ⟨by omega, by decide⟩ wl_X4_65 dX4_canEndLoan_23 rfl (Nat.le_of_ble_eq_true rfl) rfl ?_
  rintro _ _ ⟨rfl, rfl⟩
  refine z_aload_n (pc := 26) (n := 2) dX4_canEndLoan_26 rfl rfl ?_
  refine z_getR (pc := 27) (q2 := b + 9) (zo_State hb) rfl inT4 (i := 6) (by decide) wf_X4_37 rfl (fun _ _ => rfl) dX4_canEndLoan_27 ?_
  refine z_getR (pc := 30) (q2 := b + 14) (zo_Loans hb) rfl inT3 (i := 4) (by decide) wf_X4_104 rfl (fun _ _ => rfl) dX4_canEndLoan_30 ?_
  refine z_iload_n (pc := 33) (n := 3) dX4_canEndLoan_33 rfl rfl ?_
  obtain ⟨c9, c10, Q⟩ := Q
  refine z_iald (pc := 34) (za_parts hb) c9 c10 dX4_canEndLoan_34 ?_
  refine z_icmp_lt (pc := 35) (tgt := 51) dX4_canEndLoan_35 (by decide) (fun c => ?_) (fun c => ?_)
  · replace Q := Q.1 c
    refine z_iconst (pc := 51) (a := 0) dX4_canEndLoan_51 rfl ?_
    exact z_zret (pc := 52) rfl (by decide) dX4_canEndLoan_52 Q
  · replace Q := Q.2 c
    refine z_aload_n (pc := 38) (n := 2) dX4_canEndLoan_38 rfl rfl ?_
    refine z_iload_n (pc := 39) (n := 1) dX4_canEndLoan_39 rfl rfl ?_
    refine z_iload_n (pc := 40) (n := 0) dX4_canEndLoan_40 rfl rfl ?_
    obtain ⟨c11, Q⟩ := Q
    obtain ⟨c12, Q⟩ := Q
    refine z_callV (pc := 41) (M := mX4_isHolding) (as := [_, _]) (st := []) (c_X4_isHolding hb c11 c12) (zo_State hb) rfl wi_X4_isHolding wm_X4_isHolding ⟨by omega, by decide⟩ wl_X4_69 dX4_canEndLoan_41 rfl (Nat.le_of_ble_eq_true rfl) rfl ?_
    rintro _ _ ⟨rfl, rfl⟩
    refine z_ifb_ne (pc := 44) (tgt := 51) dX4_canEndLoan_44 (by decide) (fun c => ?_) (fun c => ?_)
    · replace Q := Q.1 c
      refine z_iconst (pc := 51) (a := 0) dX4_canEndLoan_51 rfl ?_
      exact z_zret (pc := 52) rfl (by decide) dX4_canEndLoan_52 Q
    · replace Q := Q.2 c
      refine z_iconst (pc := 47) (a := 1) dX4_canEndLoan_47 rfl ?_
      refine z_goto (pc := 48) (tgt := 52) dX4_canEndLoan_48 (by decide) ?_
      exact z_zret (pc := 52) rfl (by decide) dX4_canEndLoan_52 Q
set_option maxHeartbeats 4000000 in
set_option maxRecDepth 100000 in
theorem k_X4_changeOwner_0 {d : Nat} {Post : Option zA → zH → Prop} {Γ : zCx} {h : zH} {b : Nat} {a1 : Int} {a2 : Int} (hb : zSt b) (hd : 2 ≤ d) (Q :
 ((¬ (0 ≤ a1 ∧ a1 ≤ 5) →
  Post (some (zI (-1))) h) ∧
 (0 ≤ a1 ∧ a1 ≤ 5 →
  ((0 ≤ a2 ∧ a2 ≤ 5 →
   0 ≤ a1 ∧ a1 < 6 ∧
   ∀ x3 : Int, x3 = (h (b + 3) a1.toNat) →
   ∃ (d4 : Nat) (P5 : Option zA → zH → Prop), d4 + 1 ≤ d ∧ zSp d4 mX3_countOf [zR (b + 9), zI a1] h P5 ∧ ∀ r6 h7, P5 r6 h7 →
   ∃ x10 : Int, r6 = some (zI x10) ∧
   ((0 < x10 →
    Post (some (zI (-4))) h7) ∧
   (¬ 0 < x10 →
    (0 ≤ x3 ∧ x3 ≤ 5) ∧
    (0 ≤ a1 ∧ a1 ≤ 5) ∧
    ((¬ (¬ zand (h7 (b + 5) a1.toNat) (zshl 1 x3) = 0) →
     ((¬ a2 = x3 →
      ∃ (d13 : Nat) (P14 : Option zA → zH → Prop), d13 + 1 ≤ d ∧ zSp d13 mX4_moveParts [zR b, zI x3, zI a2, zI a1, zI 64] h7 P14 ∧ ∀ r15 h16, P14 r15 h16 →
      r15 = none ∧
      0 ≤ a1 ∧ a1 < 6 ∧
      ∀ h21 : zH, h21 = zu h16 (b + 3) a1.toNat a2 →
      Post (some (zI x3)) h21) ∧
     (a2 = x3 →
      Post (some (zI (-5))) h7))) ∧
    (¬ zand (h7 (b + 5) a1.toNat) (zshl 1 x3) = 0 →
     Post (some (zI (-4))) h7))))) ∧
  (¬ (0 ≤ a2 ∧ a2 ≤ 5) →
   Post (some (zI (-1))) h))))) :
    zV RX4 cX4_changeOwner 4 (some .int) d Post Γ 0 [(0, zR b), (1, zI a1), (2, zI a2)] [] h := by
  refine z_iload_n (pc := 0) (n := 1) dX4_changeOwner_0 rfl rfl ?_
  refine z_callN (pc := 1) (M := mX6_isCell) (as := [_]) (st := []) c_X6_isCell wt_X6_isCell wm_X6_isCell ⟨by omega, by decide⟩ wl_X4_62 dX4_changeOwner_1 rfl (Nat.le_of_ble_eq_true rfl) rfl ?_
  rintro _ _ ⟨rfl, rfl⟩
  refine z_ifb_eq (pc := 4) (tgt := 14) dX4_changeOwner_4 (by decide) (fun c => ?_) (fun c => ?_)
  · replace Q := Q.1 c
    refine z_iconst (pc := 14) (a := -1) dX4_changeOwner_14 rfl ?_
    exact z_iret (pc := 15) rfl dX4_changeOwner_15 Q
  · replace Q := Q.2 c
    refine z_iload_n (pc := 7) (n := 2) dX4_changeOwner_7 rfl rfl ?_
    refine z_callN (pc := 8) (M := mX6_isAgent) (as := [_]) (st := []) c_X6_isAgent wt_X6_isAgent wm_X6_isAgent ⟨by omega, by decide⟩ wl_X4_58 dX4_changeOwner_8 rfl (Nat.le_of_ble_eq_true rfl) rfl ?_
    rintro _ _ ⟨rfl, rfl⟩
    refine z_ifb_ne (pc := 11) (tgt := 16) dX4_changeOwner_11 (by decide) (fun c => ?_) (fun c => ?_)
    · replace Q := Q.1 c
      refine z_aload_n (pc := 16) (n := 0) dX4_changeOwner_16 rfl rfl ?_
      refine z_getR (pc := 17) (q2 := b + 3) (zo_State hb) rfl inT4 (i := 2) (by decide) wf_X4_18 rfl (fun _ _ => rfl) dX4_changeOwner_17 ?_
      refine z_iload_n (pc := 20) (n := 1) dX4_changeOwner_20 rfl rfl ?_
      obtain ⟨c1, c2, Q⟩ := Q
      refine z_iald (pc := 21) (za_owner hb) c1 c2 dX4_changeOwner_21 ?_
      refine z_top (fun x3 ex3 => ?_)
      replace Q := Q x3 ex3
      refine z_istore_n (pc := 22) (ls' := [(3, _), (0, _), (1, _), (2, _)]) dX4_changeOwner_22 rfl (by decide) rfl ?_
      refine z_aload_n (pc := 23) (n := 1) dX4_changeOwner_23 rfl rfl ?_
      refine z_getR (pc := 24) (q2 := b + 9) (zo_State hb) rfl inT4 (i := 6) (by decide) wf_X4_37 rfl (fun _ _ => rfl) dX4_changeOwner_24 ?_
      refine z_iload_n (pc := 27) (n := 2) dX4_changeOwner_27 rfl rfl ?_
      obtain ⟨d4, P5, e8, s9, Q⟩ := Q
      refine z_callV (pc := 28) (M := mX3_countOf) (as := [_]) (st := []) s9 (zo_Loans hb) rfl wi_X3_countOf wm_X3_countOf ⟨by omega, by decide⟩ wl_X4_125 dX4_changeOwner_28 rfl (Nat.le_of_ble_eq_true rfl) rfl ?_
      intro r6 h7 s9
      obtain ⟨x10, rfl, Q⟩ := Q _ _ s9
      refine z_if_gt (pc := 31) (tgt := 43) dX4_changeOwner_31 (by decide) (fun c => ?_) (fun c => ?_)
      · replace Q := Q.1 c
        refine z_bipush (pc := 43) (a := -4) dX4_changeOwner_43 rfl ?_
        exact z_iret (pc := 45) rfl dX4_changeOwner_45 Q
      · replace Q := Q.2 c
        refine z_aload_n (pc := 34) (n := 1) dX4_changeOwner_34 rfl rfl ?_
        refine z_iload_n (pc := 35) (n := 0) dX4_changeOwner_35 rfl rfl ?_
        refine z_iload_n (pc := 36) (n := 2) dX4_changeOwner_36 rfl rfl ?_
        obtain ⟨c11, Q⟩ := Q
        obtain ⟨c12, Q⟩ := Q
        refine z_callV (pc := 37) (M := mX4_isHolding) (as := [_, _]) (st := []) (c_X4_isHolding hb c11 c12) (zo_State hb) rfl wi_X4_isHolding wm_X4_isHolding ⟨by omega, by decide⟩ wl_X4_69 dX4_changeOwner_37 rfl (Nat.le_of_ble_eq_true rfl) rfl ?_
        rintro _ _ ⟨rfl, rfl⟩
        refine z_ifb_eq (pc := 40) (tgt := 46) dX4_changeOwner_40 (by decide) (fun c => ?_) (fun c => ?_)
        · replace Q := Q.1 c
          refine z_iload_n (pc := 46) (n := 3) dX4_changeOwner_46 rfl rfl ?_
          refine z_iload_n (pc := 47) (n := 0) dX4_changeOwner_47 rfl rfl ?_
          refine z_icmp_ne (pc := 48) (tgt := 54) dX4_changeOwner_48 (by decide) (fun c => ?_) (fun c => ?_)
          · replace Q := Q.1 c
            refine z_aload_n (pc := 54) (n := 1) dX4_changeOwner_54 rfl rfl ?_
            refine z_iload_n (pc := 55) (n := 0) dX4_changeOwner_55 rfl rfl ?_
            refine z_iload_n (pc := 56) (n := 3) dX4_changeOwner_56 rfl rfl ?_
            refine z_iload_n (pc := 57) (n := 2) dX4_changeOwner_57 rfl rfl ?_
            refine z_bipush (pc := 58) (a := 64) dX4_changeOwner_58 rfl ?_
            obtain ⟨d13, P14, e17, s18, Q⟩ := Q
            refine z_callV (pc := 60) (M := mX4_moveParts) (as := [_, _, _, _]) (st := []) s18 (zo_State hb) rfl wi_X4_moveParts wm_X4_moveParts ⟨by omega, by decide⟩ wl_X4_77 dX4_changeOwner_60 rfl (Nat.le_of_ble_eq_true rfl) rfl ?_
            intro r15 h16 s18
            obtain ⟨rfl, Q⟩ := Q _ _ s18
            refine z_aload_n (pc := 63) (n := 1) dX4_changeOwner_63 rfl rfl ?_
            refine z_getR (pc := 64) (q2 := b + 3) (zo_State hb) rfl inT4 (i := 2) (by decide) wf_X4_18 rfl (fun _ _ => rfl) dX4_changeOwner_64 ?_
            refine z_iload_n (pc := 67) (n := 2) dX4_changeOwner_67 rfl rfl ?_
            refine z_iload_n (pc := 68) (n := 3) dX4_changeOwner_68 rfl rfl ?_
            obtain ⟨c19, c20, Q⟩ := Q
            refine z_iast (pc := 69) (za_owner hb) c19 c20 dX4_changeOwner_69 ?_
            refine z_heap (fun h21 eh21 => ?_)
            replace Q := Q h21 eh21
            refine z_iload_n (pc := 70) (n := 0) dX4_changeOwner_70 rfl rfl ?_
            exact z_iret (pc := 71) rfl dX4_changeOwner_71 Q
          · replace Q := Q.2 c
            refine z_bipush (pc := 51) (a := -5) dX4_changeOwner_51 rfl ?_
            exact z_iret (pc := 53) rfl dX4_changeOwner_53 Q
        · replace Q := Q.2 c
          refine z_bipush (pc := 43) (a := -4) dX4_changeOwner_43 rfl ?_
          exact z_iret (pc := 45) rfl dX4_changeOwner_45 Q
    · replace Q := Q.2 c
      refine z_iconst (pc := 14) (a := -1) dX4_changeOwner_14 rfl ?_
      exact z_iret (pc := 15) rfl dX4_changeOwner_15 Q
set_option maxHeartbeats 4000000 in
set_option maxRecDepth 100000 in
theorem k_X4_copyFrom_0 {d : Nat} {Post : Option zA → zH → Prop} {Γ : zCx} {h : zH} {b : Nat} {b1 : Nat} (hb : zSt b) (hb1 : zSt b1) (hd : 1 ≤ d) (Q :
 ∀ h1 : zH, h1 = zcp h (b1 + 1) 0 (b + 1) 0 6 →
 ∀ h2 : zH, h2 = zcp h1 (b1 + 2) 0 (b + 2) 0 6 →
 ∀ h3 : zH, h3 = zcp h2 (b1 + 3) 0 (b + 3) 0 6 →
 ∀ h4 : zH, h4 = zcp h3 (b1 + 4) 0 (b + 4) 0 36 →
 ∀ h5 : zH, h5 = zcp h4 (b1 + 5) 0 (b + 5) 0 6 →
 ∃ (d6 : Nat) (P7 : Option zA → zH → Prop), d6 + 1 ≤ d ∧ zSp d6 mX0_copyFrom [zR (b + 6), zR (b1 + 6)] h5 P7 ∧ ∀ r8 h9, P7 r8 h9 →
 r8 = none ∧
 ∃ (d12 : Nat) (P13 : Option zA → zH → Prop), d12 + 1 ≤ d ∧ zSp d12 mX3_copyFrom [zR (b + 9), zR (b1 + 9)] h9 P13 ∧ ∀ r14 h15, P13 r14 h15 →
 r14 = none ∧
 ∀ h18 : zH, h18 = zu h15 b 7 (h15 b1 7) →
 Post none h18) :
    zV RX4 cX4_copyFrom 2 none d Post Γ 0 [(0, zR b), (1, zR b1)] [] h := by
  refine z_aload_n (pc := 0) (n := 1) dX4_copyFrom_0 rfl rfl ?_
  refine z_getR (pc := 1) (q2 := b1 + 1) (zo_State hb1) rfl inT4 (i := 0) (by decide) wf_X4_9 rfl (fun _ _ => rfl) dX4_copyFrom_1 ?_
  refine z_iconst (pc := 4) (a := 0) dX4_copyFrom_4 rfl ?_
  refine z_aload_n (pc := 5) (n := 0) dX4_copyFrom_5 rfl rfl ?_
  refine z_getR (pc := 6) (q2 := b + 1) (zo_State hb) rfl inT4 (i := 0) (by decide) wf_X4_9 rfl (fun _ _ => rfl) dX4_copyFrom_6 ?_
  refine z_iconst (pc := 9) (a := 0) dX4_copyFrom_9 rfl ?_
  refine z_bipush (pc := 10) (a := 6) dX4_copyFrom_10 rfl ?_
  refine z_copy (pc := 12) (za_value hb1) (za_value hb) wl_X4_41 wn_copy ws_copy wi_copy (by decide) (by decide) (by decide) (by decide) (by decide) (by omega) (by decide) dX4_copyFrom_12 ?_
  refine z_heap (fun h1 eh1 => ?_)
  replace Q := Q h1 eh1
  refine z_aload_n (pc := 15) (n := 1) dX4_copyFrom_15 rfl rfl ?_
  refine z_getR (pc := 16) (q2 := b1 + 2) (zo_State hb1) rfl inT4 (i := 1) (by decide) wf_X4_15 rfl (fun _ _ => rfl) dX4_copyFrom_16 ?_
  refine z_iconst (pc := 19) (a := 0) dX4_copyFrom_19 rfl ?_
  refine z_aload_n (pc := 20) (n := 0) dX4_copyFrom_20 rfl rfl ?_
  refine z_getR (pc := 21) (q2 := b + 2) (zo_State hb) rfl inT4 (i := 1) (by decide) wf_X4_15 rfl (fun _ _ => rfl) dX4_copyFrom_21 ?_
  refine z_iconst (pc := 24) (a := 0) dX4_copyFrom_24 rfl ?_
  refine z_bipush (pc := 25) (a := 6) dX4_copyFrom_25 rfl ?_
  refine z_copy (pc := 27) (za_version hb1) (za_version hb) wl_X4_41 wn_copy ws_copy wi_copy (by decide) (by decide) (by decide) (by decide) (by decide) (by omega) (by decide) dX4_copyFrom_27 ?_
  refine z_heap (fun h2 eh2 => ?_)
  replace Q := Q h2 eh2
  refine z_aload_n (pc := 30) (n := 1) dX4_copyFrom_30 rfl rfl ?_
  refine z_getR (pc := 31) (q2 := b1 + 3) (zo_State hb1) rfl inT4 (i := 2) (by decide) wf_X4_18 rfl (fun _ _ => rfl) dX4_copyFrom_31 ?_
  refine z_iconst (pc := 34) (a := 0) dX4_copyFrom_34 rfl ?_
  refine z_aload_n (pc := 35) (n := 0) dX4_copyFrom_35 rfl rfl ?_
  refine z_getR (pc := 36) (q2 := b + 3) (zo_State hb) rfl inT4 (i := 2) (by decide) wf_X4_18 rfl (fun _ _ => rfl) dX4_copyFrom_36 ?_
  refine z_iconst (pc := 39) (a := 0) dX4_copyFrom_39 rfl ?_
  refine z_bipush (pc := 40) (a := 6) dX4_copyFrom_40 rfl ?_
  refine z_copy (pc := 42) (za_owner hb1) (za_owner hb) wl_X4_41 wn_copy ws_copy wi_copy (by decide) (by decide) (by decide) (by decide) (by decide) (by omega) (by decide) dX4_copyFrom_42 ?_
  refine z_heap (fun h3 eh3 => ?_)
  replace Q := Q h3 eh3
  refine z_aload_n (pc := 45) (n := 1) dX4_copyFrom_45 rfl rfl ?_
  refine z_getR (pc := 46) (q2 := b1 + 4) (zo_State hb1) rfl inT4 (i := 3) (by decide) wf_X4_21 rfl (fun _ _ => rfl) dX4_copyFrom_46 ?_
  refine z_iconst (pc := 49) (a := 0) dX4_copyFrom_49 rfl ?_
  refine z_aload_n (pc := 50) (n := 0) dX4_copyFrom_50 rfl rfl ?_
  refine z_getR (pc := 51) (q2 := b + 4) (zo_State hb) rfl inT4 (i := 3) (by decide) wf_X4_21 rfl (fun _ _ => rfl) dX4_copyFrom_51 ?_
  refine z_iconst (pc := 54) (a := 0) dX4_copyFrom_54 rfl ?_
  refine z_bipush (pc := 55) (a := 36) dX4_copyFrom_55 rfl ?_
  refine z_copy (pc := 57) (za_held hb1) (za_held hb) wl_X4_41 wn_copy ws_copy wi_copy (by decide) (by decide) (by decide) (by decide) (by decide) (by omega) (by decide) dX4_copyFrom_57 ?_
  refine z_heap (fun h4 eh4 => ?_)
  replace Q := Q h4 eh4
  refine z_aload_n (pc := 60) (n := 1) dX4_copyFrom_60 rfl rfl ?_
  refine z_getR (pc := 61) (q2 := b1 + 5) (zo_State hb1) rfl inT4 (i := 4) (by decide) wf_X4_24 rfl (fun _ _ => rfl) dX4_copyFrom_61 ?_
  refine z_iconst (pc := 64) (a := 0) dX4_copyFrom_64 rfl ?_
  refine z_aload_n (pc := 65) (n := 0) dX4_copyFrom_65 rfl rfl ?_
  refine z_getR (pc := 66) (q2 := b + 5) (zo_State hb) rfl inT4 (i := 4) (by decide) wf_X4_24 rfl (fun _ _ => rfl) dX4_copyFrom_66 ?_
  refine z_iconst (pc := 69) (a := 0) dX4_copyFrom_69 rfl ?_
  refine z_bipush (pc := 70) (a := 6) dX4_copyFrom_70 rfl ?_
  refine z_copy (pc := 72) (za_holding hb1) (za_holding hb) wl_X4_41 wn_copy ws_copy wi_copy (by decide) (by decide) (by decide) (by decide) (by decide) (by omega) (by decide) dX4_copyFrom_72 ?_
  refine z_heap (fun h5 eh5 => ?_)
  replace Q := Q h5 eh5
  refine z_aload_n (pc := 75) (n := 0) dX4_copyFrom_75 rfl rfl ?_
  refine z_getR (pc := 76) (q2 := b + 6) (zo_State hb) rfl inT4 (i := 5) (by decide) wf_X4_30 rfl (fun _ _ => rfl) dX4_copyFrom_76 ?_
  refine z_aload_n (pc := 79) (n := 1) dX4_copyFrom_79 rfl rfl ?_
  refine z_getR (pc := 80) (q2 := b1 + 6) (zo_State hb1) rfl inT4 (i := 5) (by decide) wf_X4_30 rfl (fun _ _ => rfl) dX4_copyFrom_80 ?_
  obtain ⟨d6, P7, e10, s11, Q⟩ := Q
  refine z_callV (pc := 83) (M := mX0_copyFrom) (as := [_]) (st := []) s11 (zo_Claims hb) rfl wi_X0_copyFrom wm_X0_copyFrom ⟨by omega, by decide⟩ wl_X4_47 dX4_copyFrom_83 rfl (Nat.le_of_ble_eq_true rfl) rfl ?_
  intro r8 h9 s11
  obtain ⟨rfl, Q⟩ := Q _ _ s11
  refine z_aload_n (pc := 86) (n := 0) dX4_copyFrom_86 rfl rfl ?_
  refine z_getR (pc := 87) (q2 := b + 9) (zo_State hb) rfl inT4 (i := 6) (by decide) wf_X4_37 rfl (fun _ _ => rfl) dX4_copyFrom_87 ?_
  refine z_aload_n (pc := 90) (n := 1) dX4_copyFrom_90 rfl rfl ?_
  refine z_getR (pc := 91) (q2 := b1 + 9) (zo_State hb1) rfl inT4 (i := 6) (by decide) wf_X4_37 rfl (fun _ _ => rfl) dX4_copyFrom_91 ?_
  obtain ⟨d12, P13, e16, s17, Q⟩ := Q
  refine z_callV (pc := 94) (M := mX3_copyFrom) (as := [_]) (st := []) s17 (zo_Loans hb) rfl wi_X3_copyFrom wm_X3_copyFrom ⟨by omega, by decide⟩ wl_X4_51 dX4_copyFrom_94 rfl (Nat.le_of_ble_eq_true rfl) rfl ?_
  intro r14 h15 s17
  obtain ⟨rfl, Q⟩ := Q _ _ s17
  refine z_aload_n (pc := 97) (n := 0) dX4_copyFrom_97 rfl rfl ?_
  refine z_aload_n (pc := 98) (n := 1) dX4_copyFrom_98 rfl rfl ?_
  refine z_getI (pc := 99) (zo_State hb1) rfl inT4 (i := 7) (by decide) wf_X4_54 rfl (fun _ _ => rfl) dX4_copyFrom_99 ?_
  refine z_putI (pc := 102) (zo_State hb) rfl inT4 (i := 7) (by decide) wf_X4_54 rfl tyX4 tyX4_ok nmX4 rfl (fun _ _ => Nat.le_of_ble_eq_true rfl) (fun _ _ _ => rfl) rfl dX4_copyFrom_102 ?_
  refine z_heap (fun h18 eh18 => ?_)
  replace Q := Q h18 eh18
  exact z_vret (pc := 105) rfl dX4_copyFrom_105 Q
set_option maxHeartbeats 4000000 in
set_option maxRecDepth 100000 in
theorem k_X4_countAllHolding_0 {d : Nat} {Post : Option zA → zH → Prop} {Γ : zCx} {h : zH} {b : Nat} (hb : zSt b) (hd : 1 ≤ d) (Q :
 zV RX4 cX4_countAllHolding 3 (some .int) d Post Γ 4 [(0, zR b), (1, zI 0), (2, zI 0)] [] h) :
    zV RX4 cX4_countAllHolding 3 (some .int) d Post Γ 0 [(0, zR b)] [] h := by
  refine z_iconst (pc := 0) (a := 0) dX4_countAllHolding_0 rfl ?_
  refine z_istore_n (pc := 1) (ls' := [(1, _), (0, _)]) dX4_countAllHolding_1 rfl (by decide) rfl ?_
  refine z_iconst (pc := 2) (a := 0) dX4_countAllHolding_2 rfl ?_
  refine z_istore_n (pc := 3) (ls' := [(2, _), (1, _), (0, _)]) dX4_countAllHolding_3 rfl (by decide) rfl ?_
  exact z_sub (ks := [2, 1, 0]) rfl Q
set_option maxHeartbeats 4000000 in
set_option maxRecDepth 100000 in
theorem k_X4_countAllHolding_4 {d : Nat} {Post : Option zA → zH → Prop} {Γ : zCx} {h : zH} {b : Nat} {v1 : Int} {v2 : Int} (hb : zSt b) (hd : 1 ≤ d) (Q :
 ((6 ≤ v2 →
  Post (some (zI v1)) h) ∧
 (¬ 6 ≤ v2 →
  ∃ (d1 : Nat) (P2 : Option zA → zH → Prop), d1 + 1 ≤ d ∧ zSp d1 mX4_countHolding [zR b, zI v2] h P2 ∧ ∀ r3 h4, P2 r3 h4 →
  ∃ x7 : Int, r3 = some (zI x7) ∧
  ∀ x8 : Int, x8 = (zwr (v1 + x7)) →
  ∀ x9 : Int, x9 = zwr (v2 + 1) →
  zV RX4 cX4_countAllHolding 3 (some .int) d Post Γ 4 [(0, zR b), (1, zI x8), (2, zI x9)] [] h4))) :
    zV RX4 cX4_countAllHolding 3 (some .int) d Post Γ 4 [(0, zR b), (1, zI v1), (2, zI v2)] [] h := by
  refine z_iload_n (pc := 4) (n := 2) dX4_countAllHolding_4 rfl rfl ?_
  refine z_bipush (pc := 5) (a := 6) dX4_countAllHolding_5 rfl ?_
  refine z_icmp_ge (pc := 7) (tgt := 24) dX4_countAllHolding_7 (by decide) (fun c => ?_) (fun c => ?_)
  · replace Q := Q.1 c
    refine z_iload_n (pc := 24) (n := 1) dX4_countAllHolding_24 rfl rfl ?_
    exact z_iret (pc := 25) rfl dX4_countAllHolding_25 Q
  · replace Q := Q.2 c
    refine z_iload_n (pc := 10) (n := 1) dX4_countAllHolding_10 rfl rfl ?_
    refine z_aload_n (pc := 11) (n := 0) dX4_countAllHolding_11 rfl rfl ?_
    refine z_iload_n (pc := 12) (n := 2) dX4_countAllHolding_12 rfl rfl ?_
    obtain ⟨d1, P2, e5, s6, Q⟩ := Q
    refine z_callV (pc := 13) (M := mX4_countHolding) (as := [_]) (st := [_]) s6 (zo_State hb) rfl wi_X4_countHolding wm_X4_countHolding ⟨by omega, by decide⟩ wl_X4_136 dX4_countAllHolding_13 rfl (Nat.le_of_ble_eq_true rfl) rfl ?_
    intro r3 h4 s6
    obtain ⟨x7, rfl, Q⟩ := Q _ _ s6
    refine z_iadd (pc := 16) dX4_countAllHolding_16 ?_
    refine z_top (fun x8 ex8 => ?_)
    replace Q := Q x8 ex8
    refine z_istore_n (pc := 17) (ls' := [(1, _), (0, _), (2, _)]) dX4_countAllHolding_17 rfl (by decide) rfl ?_
    refine z_iincg (pc := 18) (n := 2) (lf := fun y => [(2, zI y), (1, _), (0, _)]) dX4_countAllHolding_18 rfl (by decide) (fun _ => rfl) (fun x9 ex9 => ?_)
    replace Q := Q x9 ex9
    refine z_goto (pc := 21) (tgt := 4) dX4_countAllHolding_21 (by decide) ?_
    exact z_sub (ks := [2, 1, 0]) rfl Q
set_option maxHeartbeats 4000000 in
set_option maxRecDepth 100000 in
theorem k_X4_countHolding_0 {d : Nat} {Post : Option zA → zH → Prop} {Γ : zCx} {h : zH} {b : Nat} {a1 : Int} (hb : zSt b) (hd : 1 ≤ d) (Q :
 0 ≤ a1 ∧ a1 < 6 ∧
 ∃ (d3 : Nat) (P4 : Option zA → zH → Prop), d3 + 1 ≤ d ∧ zSp d3 mJ6_bitCount_0f7a4 [zI (h (b + 5) a1.toNat)] h P4 ∧ ∀ r5 h6, P4 r5 h6 →
 ∃ x9 : Int, r5 = some (zI x9) ∧
 Post (some (zI x9)) h6) :
    zV RX4 cX4_countHolding 2 (some .int) d Post Γ 0 [(0, zR b), (1, zI a1)] [] h := by
  refine z_aload_n (pc := 0) (n := 0) dX4_countHolding_0 rfl rfl ?_
  refine z_getR (pc := 1) (q2 := b + 5) (zo_State hb) rfl inT4 (i := 4) (by decide) wf_X4_24 rfl (fun _ _ => rfl) dX4_countHolding_1 ?_
  refine z_iload_n (pc := 4) (n := 1) dX4_countHolding_4 rfl rfl ?_
  obtain ⟨c1, c2, Q⟩ := Q
  refine z_iald (pc := 5) (za_holding hb) c1 c2 dX4_countHolding_5 ?_
  obtain ⟨d3, P4, e7, s8, Q⟩ := Q
  refine z_callS (pc := 6) (M := mJ6_bitCount_0f7a4) (as := [_]) (st := []) s8 wt_J6_bitCount_0f7a4 wm_J6_bitCount_0f7a4 ⟨by omega, by decide⟩ wl_X4_131 dX4_countHolding_6 rfl (Nat.le_of_ble_eq_true rfl) rfl ?_
  intro r5 h6 s8
  obtain ⟨x9, rfl, Q⟩ := Q _ _ s8
  exact z_iret (pc := 9) rfl dX4_countHolding_9 Q
set_option maxHeartbeats 4000000 in
set_option maxRecDepth 100000 in
theorem k_X4_countReaders_0 {d : Nat} {Post : Option zA → zH → Prop} {Γ : zCx} {h : zH} {b : Nat} {a1 : Int} (hb : zSt b) (hd : 1 ≤ d) (Q :
 zV RX4 cX4_countReaders 4 (some .int) d Post Γ 4 [(0, zR b), (1, zI a1), (2, zI 0), (3, zI 0)] [] h) :
    zV RX4 cX4_countReaders 4 (some .int) d Post Γ 0 [(0, zR b), (1, zI a1)] [] h := by
  refine z_iconst (pc := 0) (a := 0) dX4_countReaders_0 rfl ?_
  refine z_istore_n (pc := 1) (ls' := [(2, _), (0, _), (1, _)]) dX4_countReaders_1 rfl (by decide) rfl ?_
  refine z_iconst (pc := 2) (a := 0) dX4_countReaders_2 rfl ?_
  refine z_istore_n (pc := 3) (ls' := [(3, _), (2, _), (0, _), (1, _)]) dX4_countReaders_3 rfl (by decide) rfl ?_
  exact z_sub (ks := [2, 3, 1, 0]) rfl Q
set_option maxHeartbeats 4000000 in
set_option maxRecDepth 100000 in
theorem k_X4_countReaders_4 {d : Nat} {Post : Option zA → zH → Prop} {Γ : zCx} {h : zH} {b : Nat} {v1 : Int} {v2 : Int} {v3 : Int} (hb : zSt b) (hd : 2 ≤ d) (Q :
 ((6 ≤ v3 →
  Post (some (zI v2)) h) ∧
 (¬ 6 ≤ v3 →
  (0 ≤ v3 ∧ v3 ≤ 5) ∧
  (0 ≤ v1 ∧ v1 ≤ 5) ∧
  (((h (b + 4) (6 * v1 + v3).toNat) ≤ 0 →
   ∀ x3 : Int, x3 = zwr (v3 + 1) →
   zV RX4 cX4_countReaders 4 (some .int) d Post Γ 4 [(0, zR b), (1, zI v1), (2, zI v2), (3, zI x3)] [] h) ∧
  (¬ (h (b + 4) (6 * v1 + v3).toNat) ≤ 0 →
   ∀ x4 : Int, x4 = zwr (v2 + 1) →
   ∀ x5 : Int, x5 = zwr (v3 + 1) →
   zV RX4 cX4_countReaders 4 (some .int) d Post Γ 4 [(0, zR b), (1, zI v1), (2, zI x4), (3, zI x5)] [] h))))) :
    zV RX4 cX4_countReaders 4 (some .int) d Post Γ 4 [(0, zR b), (1, zI v1), (2, zI v2), (3, zI v3)] [] h := by
  refine z_iload_n (pc := 4) (n := 3) dX4_countReaders_4 rfl rfl ?_
  refine z_bipush (pc := 5) (a := 6) dX4_countReaders_5 rfl ?_
  refine z_icmp_ge (pc := 7) (tgt := 28) dX4_countReaders_7 (by decide) (fun c => ?_) (fun c => ?_)
  · replace Q := Q.1 c
    refine z_iload_n (pc := 28) (n := 2) dX4_countReaders_28 rfl rfl ?_
    exact z_iret (pc := 29) rfl dX4_countReaders_29 Q
  · replace Q := Q.2 c
    refine z_aload_n (pc := 10) (n := 0) dX4_countReaders_10 rfl rfl ?_
    refine z_iload_n (pc := 11) (n := 3) dX4_countReaders_11 rfl rfl ?_
    refine z_iload_n (pc := 12) (n := 1) dX4_countReaders_12 rfl rfl ?_
    obtain ⟨c1, Q⟩ := Q
    obtain ⟨c2, Q⟩ := Q
    refine z_callV (pc := 13) (M := mX4_heldBy) (as := [_, _]) (st := []) (c_X4_heldBy hb c1 c2) (zo_State hb) rfl wi_X4_heldBy wm_X4_heldBy ⟨by omega, by decide⟩ wl_X4_65 dX4_countReaders_13 rfl (Nat.le_of_ble_eq_true rfl) rfl ?_
    rintro _ _ ⟨rfl, rfl⟩
    refine z_if_le (pc := 16) (tgt := 22) dX4_countReaders_16 (by decide) (fun c => ?_) (fun c => ?_)
    · replace Q := Q.1 c
      refine z_iincg (pc := 22) (n := 3) (lf := fun y => [(3, zI y), (0, _), (1, _), (2, _)]) dX4_countReaders_22 rfl (by decide) (fun _ => rfl) (fun x3 ex3 => ?_)
      replace Q := Q x3 ex3
      refine z_goto (pc := 25) (tgt := 4) dX4_countReaders_25 (by decide) ?_
      exact z_sub (ks := [1, 2, 3, 0]) rfl Q
    · replace Q := Q.2 c
      refine z_iincg (pc := 19) (n := 2) (lf := fun y => [(2, zI y), (0, _), (1, _), (3, _)]) dX4_countReaders_19 rfl (by decide) (fun _ => rfl) (fun x4 ex4 => ?_)
      replace Q := Q x4 ex4
      refine z_iincg (pc := 22) (n := 3) (lf := fun y => [(3, zI y), (2, _), (0, _), (1, _)]) dX4_countReaders_22 rfl (by decide) (fun _ => rfl) (fun x5 ex5 => ?_)
      replace Q := Q x5 ex5
      refine z_goto (pc := 25) (tgt := 4) dX4_countReaders_25 (by decide) ?_
      exact z_sub (ks := [2, 3, 1, 0]) rfl Q
set_option maxHeartbeats 4000000 in
set_option maxRecDepth 100000 in
theorem k_X4_countWholeCells_0 {d : Nat} {Post : Option zA → zH → Prop} {Γ : zCx} {h : zH} {b : Nat} (hb : zSt b) (hd : 1 ≤ d) (Q :
 zV RX4 cX4_countWholeCells 3 (some .int) d Post Γ 4 [(0, zR b), (1, zI 0), (2, zI 0)] [] h) :
    zV RX4 cX4_countWholeCells 3 (some .int) d Post Γ 0 [(0, zR b)] [] h := by
  refine z_iconst (pc := 0) (a := 0) dX4_countWholeCells_0 rfl ?_
  refine z_istore_n (pc := 1) (ls' := [(1, _), (0, _)]) dX4_countWholeCells_1 rfl (by decide) rfl ?_
  refine z_iconst (pc := 2) (a := 0) dX4_countWholeCells_2 rfl ?_
  refine z_istore_n (pc := 3) (ls' := [(2, _), (1, _), (0, _)]) dX4_countWholeCells_3 rfl (by decide) rfl ?_
  exact z_sub (ks := [2, 1, 0]) rfl Q
set_option maxHeartbeats 4000000 in
set_option maxRecDepth 100000 in
theorem k_X4_countWholeCells_4 {d : Nat} {Post : Option zA → zH → Prop} {Γ : zCx} {h : zH} {b : Nat} {v1 : Int} {v2 : Int} (hb : zSt b) (hd : 1 ≤ d) (Q :
 ((6 ≤ v2 →
  Post (some (zI v1)) h) ∧
 (¬ 6 ≤ v2 →
  ∃ (d1 : Nat) (P2 : Option zA → zH → Prop), d1 + 1 ≤ d ∧ zSp d1 mX4_holderOfWhole [zR b, zI v2] h P2 ∧ ∀ r3 h4, P2 r3 h4 →
  ∃ x7 : Int, r3 = some (zI x7) ∧
  ((x7 = (-5) →
   ∀ x8 : Int, x8 = zwr (v2 + 1) →
   zV RX4 cX4_countWholeCells 3 (some .int) d Post Γ 4 [(0, zR b), (1, zI v1), (2, zI x8)] [] h4) ∧
  (¬ x7 = (-5) →
   ∀ x9 : Int, x9 = zwr (v1 + 1) →
   ∀ x10 : Int, x10 = zwr (v2 + 1) →
   zV RX4 cX4_countWholeCells 3 (some .int) d Post Γ 4 [(0, zR b), (1, zI x9), (2, zI x10)] [] h4))))) :
    zV RX4 cX4_countWholeCells 3 (some .int) d Post Γ 4 [(0, zR b), (1, zI v1), (2, zI v2)] [] h := by
  refine z_iload_n (pc := 4) (n := 2) dX4_countWholeCells_4 rfl rfl ?_
  refine z_bipush (pc := 5) (a := 6) dX4_countWholeCells_5 rfl ?_
  refine z_icmp_ge (pc := 7) (tgt := 29) dX4_countWholeCells_7 (by decide) (fun c => ?_) (fun c => ?_)
  · replace Q := Q.1 c
    refine z_iload_n (pc := 29) (n := 1) dX4_countWholeCells_29 rfl rfl ?_
    exact z_iret (pc := 30) rfl dX4_countWholeCells_30 Q
  · replace Q := Q.2 c
    refine z_aload_n (pc := 10) (n := 0) dX4_countWholeCells_10 rfl rfl ?_
    refine z_iload_n (pc := 11) (n := 2) dX4_countWholeCells_11 rfl rfl ?_
    obtain ⟨d1, P2, e5, s6, Q⟩ := Q
    refine z_callV (pc := 12) (M := mX4_holderOfWhole) (as := [_]) (st := []) s6 (zo_State hb) rfl wi_X4_holderOfWhole wm_X4_holderOfWhole ⟨by omega, by decide⟩ wl_X4_128 dX4_countWholeCells_12 rfl (Nat.le_of_ble_eq_true rfl) rfl ?_
    intro r3 h4 s6
    obtain ⟨x7, rfl, Q⟩ := Q _ _ s6
    refine z_bipush (pc := 15) (a := -5) dX4_countWholeCells_15 rfl ?_
    refine z_icmp_eq (pc := 17) (tgt := 23) dX4_countWholeCells_17 (by decide) (fun c => ?_) (fun c => ?_)
    · replace Q := Q.1 c
      refine z_iincg (pc := 23) (n := 2) (lf := fun y => [(2, zI y), (0, _), (1, _)]) dX4_countWholeCells_23 rfl (by decide) (fun _ => rfl) (fun x8 ex8 => ?_)
      replace Q := Q x8 ex8
      refine z_goto (pc := 26) (tgt := 4) dX4_countWholeCells_26 (by decide) ?_
      exact z_sub (ks := [1, 2, 0]) rfl Q
    · replace Q := Q.2 c
      refine z_iincg (pc := 20) (n := 1) (lf := fun y => [(1, zI y), (0, _), (2, _)]) dX4_countWholeCells_20 rfl (by decide) (fun _ => rfl) (fun x9 ex9 => ?_)
      replace Q := Q x9 ex9
      refine z_iincg (pc := 23) (n := 2) (lf := fun y => [(2, zI y), (1, _), (0, _)]) dX4_countWholeCells_23 rfl (by decide) (fun _ => rfl) (fun x10 ex10 => ?_)
      replace Q := Q x10 ex10
      refine z_goto (pc := 26) (tgt := 4) dX4_countWholeCells_26 (by decide) ?_
      exact z_sub (ks := [2, 1, 0]) rfl Q
set_option maxHeartbeats 4000000 in
set_option maxRecDepth 100000 in
theorem k_X4_endLoan_0 {d : Nat} {Post : Option zA → zH → Prop} {Γ : zCx} {h : zH} {b : Nat} {a1 : Int} (hb : zSt b) (hd : 2 ≤ d) (Q :
 ∃ (d1 : Nat) (P2 : Option zA → zH → Prop), d1 + 1 ≤ d ∧ zSp d1 mX3_rowOf [zR (b + 9), zI a1] h P2 ∧ ∀ r3 h4, P2 r3 h4 →
 ∃ x7 : Int, r3 = some (zI x7) ∧
 ((0 ≤ x7 →
  ∃ (d8 : Nat) (P9 : Option zA → zH → Prop), d8 + 1 ≤ d ∧ zSp d8 mX4_canEndLoan [zR b, zI x7] h4 P9 ∧ ∀ r10 h11, P9 r10 h11 →
  ∃ x14 : Int, r10 = some (zI x14) ∧
  ((¬ x14 = 0 →
   0 ≤ x7 ∧ x7 < 40 ∧
   ∀ x17 : Int, x17 = (h11 (b + 11) x7.toNat) →
   0 ≤ x7 ∧ x7 < 40 ∧
   ∀ x20 : Int, x20 = (h11 (b + 13) x7.toNat) →
   0 ≤ x7 ∧ x7 < 40 ∧
   0 ≤ x7 ∧ x7 < 40 ∧
   ∃ (d25 : Nat) (P26 : Option zA → zH → Prop), d25 + 1 ≤ d ∧ zSp d25 mX4_moveParts [zR b, zI (h11 (b + 12) x7.toNat), zI x17, zI x20, zI (h11 (b + 14) x7.toNat)] h11 P26 ∧ ∀ r27 h28, P26 r27 h28 →
   r27 = none ∧
   ∃ (d31 : Nat) (P32 : Option zA → zH → Prop), d31 + 1 ≤ d ∧ zSp d31 mX3_remove [zR (b + 9), zI x7] h28 P32 ∧ ∀ r33 h34, P32 r33 h34 →
   r33 = none ∧
   (0 ≤ x17 ∧ x17 ≤ 5) ∧
   (0 ≤ x20 ∧ x20 ≤ 5) ∧
   Post (some (zI (h34 (b + 4) (6 * x20 + x17).toNat))) h34) ∧
  (x14 = 0 →
   Post (some (zI (-4))) h11))) ∧
 (¬ 0 ≤ x7 →
  Post (some (zI (-1))) h4))) :
    zV RX4 cX4_endLoan 5 (some .int) d Post Γ 0 [(0, zR b), (1, zI a1)] [] h := by
  refine z_aload_n (pc := 0) (n := 0) dX4_endLoan_0 rfl rfl ?_
  refine z_getR (pc := 1) (q2 := b + 9) (zo_State hb) rfl inT4 (i := 6) (by decide) wf_X4_37 rfl (fun _ _ => rfl) dX4_endLoan_1 ?_
  refine z_iload_n (pc := 4) (n := 1) dX4_endLoan_4 rfl rfl ?_
  obtain ⟨d1, P2, e5, s6, Q⟩ := Q
  refine z_callV (pc := 5) (M := mX3_rowOf) (as := [_]) (st := []) s6 (zo_Loans hb) rfl wi_X3_rowOf wm_X3_rowOf ⟨by omega, by decide⟩ wl_X4_88 dX4_endLoan_5 rfl (Nat.le_of_ble_eq_true rfl) rfl ?_
  intro r3 h4 s6
  obtain ⟨x7, rfl, Q⟩ := Q _ _ s6
  refine z_istore_n (pc := 8) (ls' := [(2, _), (0, _), (1, _)]) dX4_endLoan_8 rfl (by decide) rfl ?_
  refine z_iload_n (pc := 9) (n := 0) dX4_endLoan_9 rfl rfl ?_
  refine z_if_ge (pc := 10) (tgt := 15) dX4_endLoan_10 (by decide) (fun c => ?_) (fun c => ?_)
  · replace Q := Q.1 c
    refine z_aload_n (pc := 15) (n := 1) dX4_endLoan_15 rfl rfl ?_
    refine z_iload_n (pc := 16) (n := 0) dX4_endLoan_16 rfl rfl ?_
    obtain ⟨d8, P9, e12, s13, Q⟩ := Q
    refine z_callV (pc := 17) (M := mX4_canEndLoan) (as := [_]) (st := []) s13 (zo_State hb) rfl wi_X4_canEndLoan wm_X4_canEndLoan ⟨by omega, by decide⟩ wl_X4_92 dX4_endLoan_17 rfl (Nat.le_of_ble_eq_true rfl) rfl ?_
    intro r10 h11 s13
    obtain ⟨x14, rfl, Q⟩ := Q _ _ s13
    refine z_if_ne (pc := 20) (tgt := 26) dX4_endLoan_20 (by decide) (fun c => ?_) (fun c => ?_)
    · replace Q := Q.1 c
      refine z_aload_n (pc := 26) (n := 1) dX4_endLoan_26 rfl rfl ?_
      refine z_getR (pc := 27) (q2 := b + 9) (zo_State hb) rfl inT4 (i := 6) (by decide) wf_X4_37 rfl (fun _ _ => rfl) dX4_endLoan_27 ?_
      refine z_getR (pc := 30) (q2 := b + 11) (zo_Loans hb) rfl inT3 (i := 1) (by decide) wf_X4_95 rfl (fun _ _ => rfl) dX4_endLoan_30 ?_
      refine z_iload_n (pc := 33) (n := 0) dX4_endLoan_33 rfl rfl ?_
      obtain ⟨c15, c16, Q⟩ := Q
      refine z_iald (pc := 34) (za_lender hb) c15 c16 dX4_endLoan_34 ?_
      refine z_top (fun x17 ex17 => ?_)
      replace Q := Q x17 ex17
      refine z_istore_n (pc := 35) (ls' := [(3, _), (2, _), (0, _), (1, _)]) dX4_endLoan_35 rfl (by decide) rfl ?_
      refine z_aload_n (pc := 36) (n := 2) dX4_endLoan_36 rfl rfl ?_
      refine z_getR (pc := 37) (q2 := b + 9) (zo_State hb) rfl inT4 (i := 6) (by decide) wf_X4_37 rfl (fun _ _ => rfl) dX4_endLoan_37 ?_
      refine z_getR (pc := 40) (q2 := b + 13) (zo_Loans hb) rfl inT3 (i := 3) (by decide) wf_X4_98 rfl (fun _ _ => rfl) dX4_endLoan_40 ?_
      refine z_iload_n (pc := 43) (n := 1) dX4_endLoan_43 rfl rfl ?_
      obtain ⟨c18, c19, Q⟩ := Q
      refine z_iald (pc := 44) (za_lcell hb) c18 c19 dX4_endLoan_44 ?_
      refine z_top (fun x20 ex20 => ?_)
      replace Q := Q x20 ex20
      refine z_istore (pc := 45) (ls' := [(4, _), (3, _), (2, _), (0, _), (1, _)]) dX4_endLoan_45 (by decide) rfl ?_
      refine z_aload_n (pc := 47) (n := 3) dX4_endLoan_47 rfl rfl ?_
      refine z_aload_n (pc := 48) (n := 3) dX4_endLoan_48 rfl rfl ?_
      refine z_getR (pc := 49) (q2 := b + 9) (zo_State hb) rfl inT4 (i := 6) (by decide) wf_X4_37 rfl (fun _ _ => rfl) dX4_endLoan_49 ?_
      refine z_getR (pc := 52) (q2 := b + 12) (zo_Loans hb) rfl inT3 (i := 2) (by decide) wf_X4_101 rfl (fun _ _ => rfl) dX4_endLoan_52 ?_
      refine z_iload_n (pc := 55) (n := 2) dX4_endLoan_55 rfl rfl ?_
      obtain ⟨c21, c22, Q⟩ := Q
      refine z_iald (pc := 56) (za_borrower hb) c21 c22 dX4_endLoan_56 ?_
      refine z_iload_n (pc := 57) (n := 1) dX4_endLoan_57 rfl rfl ?_
      refine z_iload (pc := 58) (n := 0) dX4_endLoan_58 rfl ?_
      refine z_aload_n (pc := 60) (n := 3) dX4_endLoan_60 rfl rfl ?_
      refine z_getR (pc := 61) (q2 := b + 9) (zo_State hb) rfl inT4 (i := 6) (by decide) wf_X4_37 rfl (fun _ _ => rfl) dX4_endLoan_61 ?_
      refine z_getR (pc := 64) (q2 := b + 14) (zo_Loans hb) rfl inT3 (i := 4) (by decide) wf_X4_104 rfl (fun _ _ => rfl) dX4_endLoan_64 ?_
      refine z_iload_n (pc := 67) (n := 2) dX4_endLoan_67 rfl rfl ?_
      obtain ⟨c23, c24, Q⟩ := Q
      refine z_iald (pc := 68) (za_parts hb) c23 c24 dX4_endLoan_68 ?_
      obtain ⟨d25, P26, e29, s30, Q⟩ := Q
      refine z_callV (pc := 69) (M := mX4_moveParts) (as := [_, _, _, _]) (st := []) s30 (zo_State hb) rfl wi_X4_moveParts wm_X4_moveParts ⟨by omega, by decide⟩ wl_X4_77 dX4_endLoan_69 rfl (Nat.le_of_ble_eq_true rfl) rfl ?_
      intro r27 h28 s30
      obtain ⟨rfl, Q⟩ := Q _ _ s30
      refine z_aload_n (pc := 72) (n := 3) dX4_endLoan_72 rfl rfl ?_
      refine z_getR (pc := 73) (q2 := b + 9) (zo_State hb) rfl inT4 (i := 6) (by decide) wf_X4_37 rfl (fun _ _ => rfl) dX4_endLoan_73 ?_
      refine z_iload_n (pc := 76) (n := 2) dX4_endLoan_76 rfl rfl ?_
      obtain ⟨d31, P32, e35, s36, Q⟩ := Q
      refine z_callV (pc := 77) (M := mX3_remove) (as := [_]) (st := []) s36 (zo_Loans hb) rfl wi_X3_remove wm_X3_remove ⟨by omega, by decide⟩ wl_X4_107 dX4_endLoan_77 rfl (Nat.le_of_ble_eq_true rfl) rfl ?_
      intro r33 h34 s36
      obtain ⟨rfl, Q⟩ := Q _ _ s36
      refine z_aload_n (pc := 80) (n := 3) dX4_endLoan_80 rfl rfl ?_
      refine z_iload_n (pc := 81) (n := 1) dX4_endLoan_81 rfl rfl ?_
      refine z_iload (pc := 82) (n := 0) dX4_endLoan_82 rfl ?_
      obtain ⟨c37, Q⟩ := Q
      obtain ⟨c38, Q⟩ := Q
      refine z_callV (pc := 84) (M := mX4_heldBy) (as := [_, _]) (st := []) (c_X4_heldBy hb c37 c38) (zo_State hb) rfl wi_X4_heldBy wm_X4_heldBy ⟨by omega, by decide⟩ wl_X4_65 dX4_endLoan_84 rfl (Nat.le_of_ble_eq_true rfl) rfl ?_
      rintro _ _ ⟨rfl, rfl⟩
      exact z_iret (pc := 87) rfl dX4_endLoan_87 Q
    · replace Q := Q.2 c
      refine z_bipush (pc := 23) (a := -4) dX4_endLoan_23 rfl ?_
      exact z_iret (pc := 25) rfl dX4_endLoan_25 Q
  · replace Q := Q.2 c
    refine z_iconst (pc := 13) (a := -1) dX4_endLoan_13 rfl ?_
    exact z_iret (pc := 14) rfl dX4_endLoan_14 Q
set_option maxHeartbeats 4000000 in
set_option maxRecDepth 100000 in
theorem k_X4_grantFirstClaim_0 {d : Nat} {Post : Option zA → zH → Prop} {Γ : zCx} {h : zH} {b : Nat} {a1 : Int} (hb : zSt b) (hd : 2 ≤ d) (Q :
 (0 ≤ a1 ∧ a1 ≤ 5) ∧
 ∀ x2 : Int, x2 = ((if h (b + 8) a1.toNat = 0 then -5 else h (b + 7) (6 * a1).toNat)) →
 0 ≤ a1 ∧ a1 < 6 ∧
 ((x2 = (h (b + 3) a1.toNat) →
  ∃ (d5 : Nat) (P6 : Option zA → zH → Prop), d5 + 1 ≤ d ∧ zSp d5 mX0_remove [zR (b + 6), zI a1, zI 0] h P6 ∧ ∀ r7 h8, P6 r7 h8 →
  r7 = none ∧
  Post (some (zI x2)) h8) ∧
 (¬ x2 = (h (b + 3) a1.toNat) →
  0 ≤ a1 ∧ a1 < 6 ∧
  ∃ (d13 : Nat) (P14 : Option zA → zH → Prop), d13 + 1 ≤ d ∧ zSp d13 mX4_makeLoan [zR b, zI (h (b + 3) a1.toNat), zI x2, zI a1, zI 64] h P14 ∧ ∀ r15 h16, P14 r15 h16 →
  ∃ x19 : Int, r15 = some (zI x19) ∧
  ((0 ≤ x19 →
   ∃ (d20 : Nat) (P21 : Option zA → zH → Prop), d20 + 1 ≤ d ∧ zSp d20 mX0_remove [zR (b + 6), zI a1, zI 0] h16 P21 ∧ ∀ r22 h23, P21 r22 h23 →
   r22 = none ∧
   Post (some (zI x2)) h23) ∧
  (¬ 0 ≤ x19 →
   Post (some (zI x19)) h16))))) :
    zV RX4 cX4_grantFirstClaim 4 (some .int) d Post Γ 0 [(0, zR b), (1, zI a1)] [] h := by
  refine z_aload_n (pc := 0) (n := 0) dX4_grantFirstClaim_0 rfl rfl ?_
  refine z_getR (pc := 1) (q2 := b + 6) (zo_State hb) rfl inT4 (i := 5) (by decide) wf_X4_30 rfl (fun _ _ => rfl) dX4_grantFirstClaim_1 ?_
  refine z_iload_n (pc := 4) (n := 1) dX4_grantFirstClaim_4 rfl rfl ?_
  obtain ⟨c1, Q⟩ := Q
  refine z_callV (pc := 5) (M := mX0_first) (as := [_]) (st := []) (c_X0_first hb c1) (zo_Claims hb) rfl wi_X0_first wm_X0_first ⟨by omega, by decide⟩ wl_X4_122 dX4_grantFirstClaim_5 rfl (Nat.le_of_ble_eq_true rfl) rfl ?_
  rintro _ _ ⟨rfl, rfl⟩
  refine z_top (fun x2 ex2 => ?_)
  replace Q := Q x2 ex2
  refine z_istore_n (pc := 8) (ls' := [(2, _), (0, _), (1, _)]) dX4_grantFirstClaim_8 rfl (by decide) rfl ?_
  refine z_iload_n (pc := 9) (n := 0) dX4_grantFirstClaim_9 rfl rfl ?_
  refine z_aload_n (pc := 10) (n := 1) dX4_grantFirstClaim_10 rfl rfl ?_
  refine z_getR (pc := 11) (q2 := b + 3) (zo_State hb) rfl inT4 (i := 2) (by decide) wf_X4_18 rfl (fun _ _ => rfl) dX4_grantFirstClaim_11 ?_
  refine z_iload_n (pc := 14) (n := 2) dX4_grantFirstClaim_14 rfl rfl ?_
  obtain ⟨c3, c4, Q⟩ := Q
  refine z_iald (pc := 15) (za_owner hb) c3 c4 dX4_grantFirstClaim_15 ?_
  refine z_icmp_eq (pc := 16) (tgt := 40) dX4_grantFirstClaim_16 (by decide) (fun c => ?_) (fun c => ?_)
  · replace Q := Q.1 c
    refine z_aload_n (pc := 40) (n := 1) dX4_grantFirstClaim_40 rfl rfl ?_
    refine z_getR (pc := 41) (q2 := b + 6) (zo_State hb) rfl inT4 (i := 5) (by decide) wf_X4_30 rfl (fun _ _ => rfl) dX4_grantFirstClaim_41 ?_
    refine z_iload_n (pc := 44) (n := 2) dX4_grantFirstClaim_44 rfl rfl ?_
    refine z_iconst (pc := 45) (a := 0) dX4_grantFirstClaim_45 rfl ?_
    obtain ⟨d5, P6, e9, s10, Q⟩ := Q
    refine z_callV (pc := 46) (M := mX0_remove) (as := [_, _]) (st := []) s10 (zo_Claims hb) rfl wi_X0_remove wm_X0_remove ⟨by omega, by decide⟩ wl_X4_117 dX4_grantFirstClaim_46 rfl (Nat.le_of_ble_eq_true rfl) rfl ?_
    intro r7 h8 s10
    obtain ⟨rfl, Q⟩ := Q _ _ s10
    refine z_iload_n (pc := 49) (n := 0) dX4_grantFirstClaim_49 rfl rfl ?_
    exact z_iret (pc := 50) rfl dX4_grantFirstClaim_50 Q
  · replace Q := Q.2 c
    refine z_aload_n (pc := 19) (n := 1) dX4_grantFirstClaim_19 rfl rfl ?_
    refine z_aload_n (pc := 20) (n := 1) dX4_grantFirstClaim_20 rfl rfl ?_
    refine z_getR (pc := 21) (q2 := b + 3) (zo_State hb) rfl inT4 (i := 2) (by decide) wf_X4_18 rfl (fun _ _ => rfl) dX4_grantFirstClaim_21 ?_
    refine z_iload_n (pc := 24) (n := 2) dX4_grantFirstClaim_24 rfl rfl ?_
    obtain ⟨c11, c12, Q⟩ := Q
    refine z_iald (pc := 25) (za_owner hb) c11 c12 dX4_grantFirstClaim_25 ?_
    refine z_iload_n (pc := 26) (n := 0) dX4_grantFirstClaim_26 rfl rfl ?_
    refine z_iload_n (pc := 27) (n := 2) dX4_grantFirstClaim_27 rfl rfl ?_
    refine z_bipush (pc := 28) (a := 64) dX4_grantFirstClaim_28 rfl ?_
    obtain ⟨d13, P14, e17, s18, Q⟩ := Q
    refine z_callV (pc := 30) (M := mX4_makeLoan) (as := [_, _, _, _]) (st := []) s18 (zo_State hb) rfl wi_X4_makeLoan wm_X4_makeLoan ⟨by omega, by decide⟩ wl_X4_85 dX4_grantFirstClaim_30 rfl (Nat.le_of_ble_eq_true rfl) rfl ?_
    intro r15 h16 s18
    obtain ⟨x19, rfl, Q⟩ := Q _ _ s18
    refine z_istore_n (pc := 33) (ls' := [(3, _), (2, _), (0, _), (1, _)]) dX4_grantFirstClaim_33 rfl (by decide) rfl ?_
    refine z_iload_n (pc := 34) (n := 0) dX4_grantFirstClaim_34 rfl rfl ?_
    refine z_if_ge (pc := 35) (tgt := 40) dX4_grantFirstClaim_35 (by decide) (fun c => ?_) (fun c => ?_)
    · replace Q := Q.1 c
      refine z_aload_n (pc := 40) (n := 2) dX4_grantFirstClaim_40 rfl rfl ?_
      refine z_getR (pc := 41) (q2 := b + 6) (zo_State hb) rfl inT4 (i := 5) (by decide) wf_X4_30 rfl (fun _ _ => rfl) dX4_grantFirstClaim_41 ?_
      refine z_iload_n (pc := 44) (n := 3) dX4_grantFirstClaim_44 rfl rfl ?_
      refine z_iconst (pc := 45) (a := 0) dX4_grantFirstClaim_45 rfl ?_
      obtain ⟨d20, P21, e24, s25, Q⟩ := Q
      refine z_callV (pc := 46) (M := mX0_remove) (as := [_, _]) (st := []) s25 (zo_Claims hb) rfl wi_X0_remove wm_X0_remove ⟨by omega, by decide⟩ wl_X4_117 dX4_grantFirstClaim_46 rfl (Nat.le_of_ble_eq_true rfl) rfl ?_
      intro r22 h23 s25
      obtain ⟨rfl, Q⟩ := Q _ _ s25
      refine z_iload_n (pc := 49) (n := 1) dX4_grantFirstClaim_49 rfl rfl ?_
      exact z_iret (pc := 50) rfl dX4_grantFirstClaim_50 Q
    · replace Q := Q.2 c
      refine z_iload_n (pc := 38) (n := 0) dX4_grantFirstClaim_38 rfl rfl ?_
      exact z_iret (pc := 39) rfl dX4_grantFirstClaim_39 Q
set_option maxHeartbeats 4000000 in
set_option maxRecDepth 100000 in
theorem k_X4_holderOfWhole_0 {d : Nat} {Post : Option zA → zH → Prop} {Γ : zCx} {h : zH} {b : Nat} {a1 : Int} (hb : zSt b) (hd : 1 ≤ d) (Q :
 zV RX4 cX4_holderOfWhole 3 (some .int) d Post Γ 2 [(0, zR b), (1, zI a1), (2, zI 0)] [] h) :
    zV RX4 cX4_holderOfWhole 3 (some .int) d Post Γ 0 [(0, zR b), (1, zI a1)] [] h := by
  refine z_iconst (pc := 0) (a := 0) dX4_holderOfWhole_0 rfl ?_
  refine z_istore_n (pc := 1) (ls' := [(2, _), (0, _), (1, _)]) dX4_holderOfWhole_1 rfl (by decide) rfl ?_
  exact z_sub (ks := [1, 2, 0]) rfl Q
set_option maxHeartbeats 4000000 in
set_option maxRecDepth 100000 in
theorem k_X4_holderOfWhole_2 {d : Nat} {Post : Option zA → zH → Prop} {Γ : zCx} {h : zH} {b : Nat} {v1 : Int} {v2 : Int} (hb : zSt b) (hd : 2 ≤ d) (Q :
 ((6 ≤ v2 →
  Post (some (zI (-5))) h) ∧
 (¬ 6 ≤ v2 →
  (0 ≤ v2 ∧ v2 ≤ 5) ∧
  (0 ≤ v1 ∧ v1 ≤ 5) ∧
  ((¬ (h (b + 4) (6 * v1 + v2).toNat) = 64 →
   ∀ x3 : Int, x3 = zwr (v2 + 1) →
   zV RX4 cX4_holderOfWhole 3 (some .int) d Post Γ 2 [(0, zR b), (1, zI v1), (2, zI x3)] [] h) ∧
  ((h (b + 4) (6 * v1 + v2).toNat) = 64 →
   Post (some (zI v2)) h))))) :
    zV RX4 cX4_holderOfWhole 3 (some .int) d Post Γ 2 [(0, zR b), (1, zI v1), (2, zI v2)] [] h := by
  refine z_iload_n (pc := 2) (n := 2) dX4_holderOfWhole_2 rfl rfl ?_
  refine z_bipush (pc := 3) (a := 6) dX4_holderOfWhole_3 rfl ?_
  refine z_icmp_ge (pc := 5) (tgt := 27) dX4_holderOfWhole_5 (by decide) (fun c => ?_) (fun c => ?_)
  · replace Q := Q.1 c
    refine z_bipush (pc := 27) (a := -5) dX4_holderOfWhole_27 rfl ?_
    exact z_iret (pc := 29) rfl dX4_holderOfWhole_29 Q
  · replace Q := Q.2 c
    refine z_aload_n (pc := 8) (n := 0) dX4_holderOfWhole_8 rfl rfl ?_
    refine z_iload_n (pc := 9) (n := 2) dX4_holderOfWhole_9 rfl rfl ?_
    refine z_iload_n (pc := 10) (n := 1) dX4_holderOfWhole_10 rfl rfl ?_
    obtain ⟨c1, Q⟩ := Q
    obtain ⟨c2, Q⟩ := Q
    refine z_callV (pc := 11) (M := mX4_heldBy) (as := [_, _]) (st := []) (c_X4_heldBy hb c1 c2) (zo_State hb) rfl wi_X4_heldBy wm_X4_heldBy ⟨by omega, by decide⟩ wl_X4_65 dX4_holderOfWhole_11 rfl (Nat.le_of_ble_eq_true rfl) rfl ?_
    rintro _ _ ⟨rfl, rfl⟩
    refine z_bipush (pc := 14) (a := 64) dX4_holderOfWhole_14 rfl ?_
    refine z_icmp_ne (pc := 16) (tgt := 21) dX4_holderOfWhole_16 (by decide) (fun c => ?_) (fun c => ?_)
    · replace Q := Q.1 c
      refine z_iincg (pc := 21) (n := 2) (lf := fun y => [(2, zI y), (0, _), (1, _)]) dX4_holderOfWhole_21 rfl (by decide) (fun _ => rfl) (fun x3 ex3 => ?_)
      replace Q := Q x3 ex3
      refine z_goto (pc := 24) (tgt := 2) dX4_holderOfWhole_24 (by decide) ?_
      exact z_sub (ks := [1, 2, 0]) rfl Q
    · replace Q := Q.2 c
      refine z_iload_n (pc := 19) (n := 2) dX4_holderOfWhole_19 rfl rfl ?_
      exact z_iret (pc := 20) rfl dX4_holderOfWhole_20 Q
set_option maxHeartbeats 4000000 in
set_option maxRecDepth 100000 in
theorem k_X4_makeHalfLoan_0 {d : Nat} {Post : Option zA → zH → Prop} {Γ : zCx} {h : zH} {b : Nat} {a1 : Int} {a2 : Int} {a3 : Int} (hb : zSt b) (hd : 2 ≤ d) (Q :
 ((¬ (0 ≤ a1 ∧ a1 ≤ 5) →
  Post (some (zI (-1))) h) ∧
 (0 ≤ a1 ∧ a1 ≤ 5 →
  ((¬ (0 ≤ a2 ∧ a2 ≤ 5) →
   Post (some (zI (-1))) h) ∧
  (0 ≤ a2 ∧ a2 ≤ 5 →
   ((0 ≤ a3 ∧ a3 ≤ 5 →
    ((¬ a1 = a2 →
     (0 ≤ a1 ∧ a1 ≤ 5) ∧
     (0 ≤ a3 ∧ a3 ≤ 5) ∧
     ∀ x3 : Int, x3 = (zdiv (h (b + 4) (6 * a3 + a1).toNat) 2) →
     ((¬ x3 = 0 →
      ∃ (d4 : Nat) (P5 : Option zA → zH → Prop), d4 + 1 ≤ d ∧ zSp d4 mX4_makeLoan [zR b, zI a1, zI a2, zI a3, zI x3] h P5 ∧ ∀ r6 h7, P5 r6 h7 →
      ∃ x10 : Int, r6 = some (zI x10) ∧
      ((0 ≤ x10 →
       Post (some (zI x3)) h7) ∧
      (¬ 0 ≤ x10 →
       Post (some (zI x10)) h7))) ∧
     (x3 = 0 →
      Post (some (zI (-4))) h))) ∧
    (a1 = a2 →
     Post (some (zI (-2))) h))) ∧
   (¬ (0 ≤ a3 ∧ a3 ≤ 5) →
    Post (some (zI (-1))) h))))))) :
    zV RX4 cX4_makeHalfLoan 6 (some .int) d Post Γ 0 [(0, zR b), (1, zI a1), (2, zI a2), (3, zI a3)] [] h := by
  refine z_iload_n (pc := 0) (n := 1) dX4_makeHalfLoan_0 rfl rfl ?_
  refine z_callN (pc := 1) (M := mX6_isAgent) (as := [_]) (st := []) c_X6_isAgent wt_X6_isAgent wm_X6_isAgent ⟨by omega, by decide⟩ wl_X4_58 dX4_makeHalfLoan_1 rfl (Nat.le_of_ble_eq_true rfl) rfl ?_
  rintro _ _ ⟨rfl, rfl⟩
  refine z_ifb_eq (pc := 4) (tgt := 21) dX4_makeHalfLoan_4 (by decide) (fun c => ?_) (fun c => ?_)
  · replace Q := Q.1 c
    refine z_iconst (pc := 21) (a := -1) dX4_makeHalfLoan_21 rfl ?_
    exact z_iret (pc := 22) rfl dX4_makeHalfLoan_22 Q
  · replace Q := Q.2 c
    refine z_iload_n (pc := 7) (n := 2) dX4_makeHalfLoan_7 rfl rfl ?_
    refine z_callN (pc := 8) (M := mX6_isAgent) (as := [_]) (st := []) c_X6_isAgent wt_X6_isAgent wm_X6_isAgent ⟨by omega, by decide⟩ wl_X4_58 dX4_makeHalfLoan_8 rfl (Nat.le_of_ble_eq_true rfl) rfl ?_
    rintro _ _ ⟨rfl, rfl⟩
    refine z_ifb_eq (pc := 11) (tgt := 21) dX4_makeHalfLoan_11 (by decide) (fun c => ?_) (fun c => ?_)
    · replace Q := Q.1 c
      refine z_iconst (pc := 21) (a := -1) dX4_makeHalfLoan_21 rfl ?_
      exact z_iret (pc := 22) rfl dX4_makeHalfLoan_22 Q
    · replace Q := Q.2 c
      refine z_iload_n (pc := 14) (n := 3) dX4_makeHalfLoan_14 rfl rfl ?_
      refine z_callN (pc := 15) (M := mX6_isCell) (as := [_]) (st := []) c_X6_isCell wt_X6_isCell wm_X6_isCell ⟨by omega, by decide⟩ wl_X4_62 dX4_makeHalfLoan_15 rfl (Nat.le_of_ble_eq_true rfl) rfl ?_
      rintro _ _ ⟨rfl, rfl⟩
      refine z_ifb_ne (pc := 18) (tgt := 23) dX4_makeHalfLoan_18 (by decide) (fun c => ?_) (fun c => ?_)
      · replace Q := Q.1 c
        refine z_iload_n (pc := 23) (n := 1) dX4_makeHalfLoan_23 rfl rfl ?_
        refine z_iload_n (pc := 24) (n := 2) dX4_makeHalfLoan_24 rfl rfl ?_
        refine z_icmp_ne (pc := 25) (tgt := 31) dX4_makeHalfLoan_25 (by decide) (fun c => ?_) (fun c => ?_)
        · replace Q := Q.1 c
          refine z_aload_n (pc := 31) (n := 0) dX4_makeHalfLoan_31 rfl rfl ?_
          refine z_iload_n (pc := 32) (n := 1) dX4_makeHalfLoan_32 rfl rfl ?_
          refine z_iload_n (pc := 33) (n := 3) dX4_makeHalfLoan_33 rfl rfl ?_
          obtain ⟨c1, Q⟩ := Q
          obtain ⟨c2, Q⟩ := Q
          refine z_callV (pc := 34) (M := mX4_heldBy) (as := [_, _]) (st := []) (c_X4_heldBy hb c1 c2) (zo_State hb) rfl wi_X4_heldBy wm_X4_heldBy ⟨by omega, by decide⟩ wl_X4_65 dX4_makeHalfLoan_34 rfl (Nat.le_of_ble_eq_true rfl) rfl ?_
          rintro _ _ ⟨rfl, rfl⟩
          refine z_iconst (pc := 37) (a := 2) dX4_makeHalfLoan_37 rfl ?_
          refine z_idiv (pc := 38) dX4_makeHalfLoan_38 (by decide) ?_
          refine z_top (fun x3 ex3 => ?_)
          replace Q := Q x3 ex3
          refine z_istore (pc := 39) (ls' := [(4, _), (0, _), (1, _), (2, _), (3, _)]) dX4_makeHalfLoan_39 (by decide) rfl ?_
          refine z_iload (pc := 41) (n := 0) dX4_makeHalfLoan_41 rfl ?_
          refine z_if_ne (pc := 43) (tgt := 49) dX4_makeHalfLoan_43 (by decide) (fun c => ?_) (fun c => ?_)
          · replace Q := Q.1 c
            refine z_aload_n (pc := 49) (n := 1) dX4_makeHalfLoan_49 rfl rfl ?_
            refine z_iload_n (pc := 50) (n := 2) dX4_makeHalfLoan_50 rfl rfl ?_
            refine z_iload_n (pc := 51) (n := 3) dX4_makeHalfLoan_51 rfl rfl ?_
            refine z_iload_n (pc := 52) (n := 4) dX4_makeHalfLoan_52 rfl rfl ?_
            refine z_iload (pc := 53) (n := 0) dX4_makeHalfLoan_53 rfl ?_
            obtain ⟨d4, P5, e8, s9, Q⟩ := Q
            refine z_callV (pc := 55) (M := mX4_makeLoan) (as := [_, _, _, _]) (st := []) s9 (zo_State hb) rfl wi_X4_makeLoan wm_X4_makeLoan ⟨by omega, by decide⟩ wl_X4_85 dX4_makeHalfLoan_55 rfl (Nat.le_of_ble_eq_true rfl) rfl ?_
            intro r6 h7 s9
            obtain ⟨x10, rfl, Q⟩ := Q _ _ s9
            refine z_istore (pc := 58) (ls' := [(5, _), (4, _), (0, _), (1, _), (2, _), (3, _)]) dX4_makeHalfLoan_58 (by decide) rfl ?_
            refine z_iload (pc := 60) (n := 0) dX4_makeHalfLoan_60 rfl ?_
            refine z_if_ge (pc := 62) (tgt := 70) dX4_makeHalfLoan_62 (by decide) (fun c => ?_) (fun c => ?_)
            · replace Q := Q.1 c
              refine z_iload (pc := 70) (n := 1) dX4_makeHalfLoan_70 rfl ?_
              exact z_iret (pc := 72) rfl dX4_makeHalfLoan_72 Q
            · replace Q := Q.2 c
              refine z_iload (pc := 65) (n := 0) dX4_makeHalfLoan_65 rfl ?_
              refine z_goto (pc := 67) (tgt := 72) dX4_makeHalfLoan_67 (by decide) ?_
              exact z_iret (pc := 72) rfl dX4_makeHalfLoan_72 Q
          · replace Q := Q.2 c
            refine z_bipush (pc := 46) (a := -4) dX4_makeHalfLoan_46 rfl ?_
            exact z_iret (pc := 48) rfl dX4_makeHalfLoan_48 Q
        · replace Q := Q.2 c
          refine z_bipush (pc := 28) (a := -2) dX4_makeHalfLoan_28 rfl ?_
          exact z_iret (pc := 30) rfl dX4_makeHalfLoan_30 Q
      · replace Q := Q.2 c
        refine z_iconst (pc := 21) (a := -1) dX4_makeHalfLoan_21 rfl ?_
        exact z_iret (pc := 22) rfl dX4_makeHalfLoan_22 Q
set_option maxHeartbeats 4000000 in
set_option maxRecDepth 100000 in
theorem k_X4_makeLoan_0 {d : Nat} {Post : Option zA → zH → Prop} {Γ : zCx} {h : zH} {b : Nat} {a1 : Int} {a2 : Int} {a3 : Int} {a4 : Int} (hb : zSt b) (hd : 2 ≤ d) (Q :
 ((¬ (0 ≤ a1 ∧ a1 ≤ 5) →
  Post (some (zI (-1))) h) ∧
 (0 ≤ a1 ∧ a1 ≤ 5 →
  ((¬ (0 ≤ a2 ∧ a2 ≤ 5) →
   Post (some (zI (-1))) h) ∧
  (0 ≤ a2 ∧ a2 ≤ 5 →
   ((0 ≤ a3 ∧ a3 ≤ 5 →
    ((a4 < 1 →
     Post (some (zI (-2))) h) ∧
    (¬ a4 < 1 →
     ((64 < a4 →
      Post (some (zI (-2))) h) ∧
     (¬ 64 < a4 →
      ((¬ a1 = a2 →
       (0 ≤ a1 ∧ a1 ≤ 5) ∧
       (0 ≤ a3 ∧ a3 ≤ 5) ∧
       (((h (b + 4) (6 * a3 + a1).toNat) < a4 →
        Post (some (zI (-4))) h) ∧
       (¬ (h (b + 4) (6 * a3 + a1).toNat) < a4 →
        (0 ≤ a1 ∧ a1 ≤ 5) ∧
        (0 ≤ a3 ∧ a3 ≤ 5) ∧
        ((¬ (¬ zand (h (b + 5) a3.toNat) (zshl 1 a1) = 0) →
         ∃ (d5 : Nat) (P6 : Option zA → zH → Prop), d5 + 1 ≤ d ∧ zSp d5 mX3_hasRoom [zR (b + 9)] h P6 ∧ ∀ r7 h8, P6 r7 h8 →
         ∃ x11 : Int, r7 = some (zI x11) ∧
         ((¬ x11 = 0 →
          ∃ (d12 : Nat) (P13 : Option zA → zH → Prop), d12 + 1 ≤ d ∧ zSp d12 mX4_moveParts [zR b, zI a1, zI a2, zI a3, zI a4] h8 P13 ∧ ∀ r14 h15, P13 r14 h15 →
          r14 = none ∧
          ∃ (d18 : Nat) (P19 : Option zA → zH → Prop), d18 + 1 ≤ d ∧ zSp d18 mX3_append [zR (b + 9), zI a1, zI a2, zI a3, zI a4] h15 P19 ∧ ∀ r20 h21, P19 r20 h21 →
          ∃ x24 : Int, r20 = some (zI x24) ∧
          Post (some (zI x24)) h21) ∧
         (x11 = 0 →
          Post (some (zI (-3))) h8))) ∧
        (¬ zand (h (b + 5) a3.toNat) (zshl 1 a1) = 0 →
         Post (some (zI (-4))) h))))) ∧
      (a1 = a2 →
       Post (some (zI (-2))) h))))))) ∧
   (¬ (0 ≤ a3 ∧ a3 ≤ 5) →
    Post (some (zI (-1))) h))))))) :
    zV RX4 cX4_makeLoan 5 (some .int) d Post Γ 0 [(0, zR b), (1, zI a1), (2, zI a2), (3, zI a3), (4, zI a4)] [] h := by
  refine z_iload_n (pc := 0) (n := 1) dX4_makeLoan_0 rfl rfl ?_
  refine z_callN (pc := 1) (M := mX6_isAgent) (as := [_]) (st := []) c_X6_isAgent wt_X6_isAgent wm_X6_isAgent ⟨by omega, by decide⟩ wl_X4_58 dX4_makeLoan_1 rfl (Nat.le_of_ble_eq_true rfl) rfl ?_
  rintro _ _ ⟨rfl, rfl⟩
  refine z_ifb_eq (pc := 4) (tgt := 21) dX4_makeLoan_4 (by decide) (fun c => ?_) (fun c => ?_)
  · replace Q := Q.1 c
    refine z_iconst (pc := 21) (a := -1) dX4_makeLoan_21 rfl ?_
    exact z_iret (pc := 22) rfl dX4_makeLoan_22 Q
  · replace Q := Q.2 c
    refine z_iload_n (pc := 7) (n := 2) dX4_makeLoan_7 rfl rfl ?_
    refine z_callN (pc := 8) (M := mX6_isAgent) (as := [_]) (st := []) c_X6_isAgent wt_X6_isAgent wm_X6_isAgent ⟨by omega, by decide⟩ wl_X4_58 dX4_makeLoan_8 rfl (Nat.le_of_ble_eq_true rfl) rfl ?_
    rintro _ _ ⟨rfl, rfl⟩
    refine z_ifb_eq (pc := 11) (tgt := 21) dX4_makeLoan_11 (by decide) (fun c => ?_) (fun c => ?_)
    · replace Q := Q.1 c
      refine z_iconst (pc := 21) (a := -1) dX4_makeLoan_21 rfl ?_
      exact z_iret (pc := 22) rfl dX4_makeLoan_22 Q
    · replace Q := Q.2 c
      refine z_iload_n (pc := 14) (n := 3) dX4_makeLoan_14 rfl rfl ?_
      refine z_callN (pc := 15) (M := mX6_isCell) (as := [_]) (st := []) c_X6_isCell wt_X6_isCell wm_X6_isCell ⟨by omega, by decide⟩ wl_X4_62 dX4_makeLoan_15 rfl (Nat.le_of_ble_eq_true rfl) rfl ?_
      rintro _ _ ⟨rfl, rfl⟩
      refine z_ifb_ne (pc := 18) (tgt := 23) dX4_makeLoan_18 (by decide) (fun c => ?_) (fun c => ?_)
      · replace Q := Q.1 c
        refine z_iload (pc := 23) (n := 4) dX4_makeLoan_23 rfl ?_
        refine z_iconst (pc := 25) (a := 1) dX4_makeLoan_25 rfl ?_
        refine z_icmp_lt (pc := 26) (tgt := 41) dX4_makeLoan_26 (by decide) (fun c => ?_) (fun c => ?_)
        · replace Q := Q.1 c
          refine z_bipush (pc := 41) (a := -2) dX4_makeLoan_41 rfl ?_
          exact z_iret (pc := 43) rfl dX4_makeLoan_43 Q
        · replace Q := Q.2 c
          refine z_iload (pc := 29) (n := 4) dX4_makeLoan_29 rfl ?_
          refine z_bipush (pc := 31) (a := 64) dX4_makeLoan_31 rfl ?_
          refine z_icmp_gt (pc := 33) (tgt := 41) dX4_makeLoan_33 (by decide) (fun c => ?_) (fun c => ?_)
          · replace Q := Q.1 c
            refine z_bipush (pc := 41) (a := -2) dX4_makeLoan_41 rfl ?_
            exact z_iret (pc := 43) rfl dX4_makeLoan_43 Q
          · replace Q := Q.2 c
            refine z_iload_n (pc := 36) (n := 1) dX4_makeLoan_36 rfl rfl ?_
            refine z_iload_n (pc := 37) (n := 2) dX4_makeLoan_37 rfl rfl ?_
            refine z_icmp_ne (pc := 38) (tgt := 44) dX4_makeLoan_38 (by decide) (fun c => ?_) (fun c => ?_)
            · replace Q := Q.1 c
              refine z_aload_n (pc := 44) (n := 0) dX4_makeLoan_44 rfl rfl ?_
              refine z_iload_n (pc := 45) (n := 1) dX4_makeLoan_45 rfl rfl ?_
              refine z_iload_n (pc := 46) (n := 3) dX4_makeLoan_46 rfl rfl ?_
              obtain ⟨c1, Q⟩ := Q
              obtain ⟨c2, Q⟩ := Q
              refine z_callV (pc := 47) (M := mX4_heldBy) (as := [_, _]) (st := []) (c_X4_heldBy hb c1 c2) (zo_State hb) rfl wi_X4_heldBy wm_X4_heldBy ⟨by omega, by decide⟩ wl_X4_65 dX4_makeLoan_47 rfl (Nat.le_of_ble_eq_true rfl) rfl ?_
              rintro _ _ ⟨rfl, rfl⟩
              refine z_iload (pc := 50) (n := 4) dX4_makeLoan_50 rfl ?_
              refine z_icmp_lt (pc := 52) (tgt := 64) dX4_makeLoan_52 (by decide) (fun c => ?_) (fun c => ?_)
              · replace Q := Q.1 c
                refine z_bipush (pc := 64) (a := -4) dX4_makeLoan_64 rfl ?_
                exact z_iret (pc := 66) rfl dX4_makeLoan_66 Q
              · replace Q := Q.2 c
                refine z_aload_n (pc := 55) (n := 0) dX4_makeLoan_55 rfl rfl ?_
                refine z_iload_n (pc := 56) (n := 1) dX4_makeLoan_56 rfl rfl ?_
                refine z_iload_n (pc := 57) (n := 3) dX4_makeLoan_57 rfl rfl ?_
                obtain ⟨c3, Q⟩ := Q
                obtain ⟨c4, Q⟩ := Q
                refine z_callV (pc := 58) (M := mX4_isHolding) (as := [_, _]) (st := []) (c_X4_isHolding hb c3 c4) (zo_State hb) rfl wi_X4_isHolding wm_X4_isHolding ⟨by omega, by decide⟩ wl_X4_69 dX4_makeLoan_58 rfl (Nat.le_of_ble_eq_true rfl) rfl ?_
                rintro _ _ ⟨rfl, rfl⟩
                refine z_ifb_eq (pc := 61) (tgt := 67) dX4_makeLoan_61 (by decide) (fun c => ?_) (fun c => ?_)
                · replace Q := Q.1 c
                  refine z_aload_n (pc := 67) (n := 0) dX4_makeLoan_67 rfl rfl ?_
                  refine z_getR (pc := 68) (q2 := b + 9) (zo_State hb) rfl inT4 (i := 6) (by decide) wf_X4_37 rfl (fun _ _ => rfl) dX4_makeLoan_68 ?_
                  obtain ⟨d5, P6, e9, s10, Q⟩ := Q
                  refine z_callV (pc := 71) (M := mX3_hasRoom) (as := []) (st := []) s10 (zo_Loans hb) rfl wi_X3_hasRoom wm_X3_hasRoom ⟨by omega, by decide⟩ wl_X4_73 dX4_makeLoan_71 rfl (Nat.le_of_ble_eq_true rfl) rfl ?_
                  intro r7 h8 s10
                  obtain ⟨x11, rfl, Q⟩ := Q _ _ s10
                  refine z_if_ne (pc := 74) (tgt := 80) dX4_makeLoan_74 (by decide) (fun c => ?_) (fun c => ?_)
                  · replace Q := Q.1 c
                    refine z_aload_n (pc := 80) (n := 0) dX4_makeLoan_80 rfl rfl ?_
                    refine z_iload_n (pc := 81) (n := 1) dX4_makeLoan_81 rfl rfl ?_
                    refine z_iload_n (pc := 82) (n := 2) dX4_makeLoan_82 rfl rfl ?_
                    refine z_iload_n (pc := 83) (n := 3) dX4_makeLoan_83 rfl rfl ?_
                    refine z_iload (pc := 84) (n := 4) dX4_makeLoan_84 rfl ?_
                    obtain ⟨d12, P13, e16, s17, Q⟩ := Q
                    refine z_callV (pc := 86) (M := mX4_moveParts) (as := [_, _, _, _]) (st := []) s17 (zo_State hb) rfl wi_X4_moveParts wm_X4_moveParts ⟨by omega, by decide⟩ wl_X4_77 dX4_makeLoan_86 rfl (Nat.le_of_ble_eq_true rfl) rfl ?_
                    intro r14 h15 s17
                    obtain ⟨rfl, Q⟩ := Q _ _ s17
                    refine z_aload_n (pc := 89) (n := 0) dX4_makeLoan_89 rfl rfl ?_
                    refine z_getR (pc := 90) (q2 := b + 9) (zo_State hb) rfl inT4 (i := 6) (by decide) wf_X4_37 rfl (fun _ _ => rfl) dX4_makeLoan_90 ?_
                    refine z_iload_n (pc := 93) (n := 1) dX4_makeLoan_93 rfl rfl ?_
                    refine z_iload_n (pc := 94) (n := 2) dX4_makeLoan_94 rfl rfl ?_
                    refine z_iload_n (pc := 95) (n := 3) dX4_makeLoan_95 rfl rfl ?_
                    refine z_iload (pc := 96) (n := 4) dX4_makeLoan_96 rfl ?_
                    obtain ⟨d18, P19, e22, s23, Q⟩ := Q
                    refine z_callV (pc := 98) (M := mX3_append) (as := [_, _, _, _]) (st := []) s23 (zo_Loans hb) rfl wi_X3_append wm_X3_append ⟨by omega, by decide⟩ wl_X4_81 dX4_makeLoan_98 rfl (Nat.le_of_ble_eq_true rfl) rfl ?_
                    intro r20 h21 s23
                    obtain ⟨x24, rfl, Q⟩ := Q _ _ s23
                    exact z_iret (pc := 101) rfl dX4_makeLoan_101 Q
                  · replace Q := Q.2 c
                    refine z_bipush (pc := 77) (a := -3) dX4_makeLoan_77 rfl ?_
                    exact z_iret (pc := 79) rfl dX4_makeLoan_79 Q
                · replace Q := Q.2 c
                  refine z_bipush (pc := 64) (a := -4) dX4_makeLoan_64 rfl ?_
                  exact z_iret (pc := 66) rfl dX4_makeLoan_66 Q
            · replace Q := Q.2 c
              refine z_bipush (pc := 41) (a := -2) dX4_makeLoan_41 rfl ?_
              exact z_iret (pc := 43) rfl dX4_makeLoan_43 Q
      · replace Q := Q.2 c
        refine z_iconst (pc := 21) (a := -1) dX4_makeLoan_21 rfl ?_
        exact z_iret (pc := 22) rfl dX4_makeLoan_22 Q
set_option maxHeartbeats 4000000 in
set_option maxRecDepth 100000 in
theorem k_X4_moveParts_0 {d : Nat} {Post : Option zA → zH → Prop} {Γ : zCx} {h : zH} {b : Nat} {a1 : Int} {a2 : Int} {a3 : Int} {a4 : Int} (hb : zSt b) (hd : 1 ≤ d) (Q :
 0 ≤ (zwr ((zwr (a3 * 6)) + a1)) ∧ (zwr ((zwr (a3 * 6)) + a1)) < 36 ∧
 0 ≤ (zwr ((zwr (a3 * 6)) + a1)) ∧ (zwr ((zwr (a3 * 6)) + a1)) < 36 ∧
 ∀ h5 : zH, h5 = zu h (b + 4) (zwr ((zwr (a3 * 6)) + a1)).toNat (zwr ((h (b + 4) (zwr ((zwr (a3 * 6)) + a1)).toNat) - a4)) →
 0 ≤ (zwr ((zwr (a3 * 6)) + a2)) ∧ (zwr ((zwr (a3 * 6)) + a2)) < 36 ∧
 0 ≤ (zwr ((zwr (a3 * 6)) + a2)) ∧ (zwr ((zwr (a3 * 6)) + a2)) < 36 ∧
 ∀ h10 : zH, h10 = zu h5 (b + 4) (zwr ((zwr (a3 * 6)) + a2)).toNat (zwr ((h5 (b + 4) (zwr ((zwr (a3 * 6)) + a2)).toNat) + a4)) →
 Post none h10) :
    zV RX4 cX4_moveParts 5 none d Post Γ 0 [(0, zR b), (1, zI a1), (2, zI a2), (3, zI a3), (4, zI a4)] [] h := by
  refine z_aload_n (pc := 0) (n := 0) dX4_moveParts_0 rfl rfl ?_
  refine z_getR (pc := 1) (q2 := b + 4) (zo_State hb) rfl inT4 (i := 3) (by decide) wf_X4_21 rfl (fun _ _ => rfl) dX4_moveParts_1 ?_
  refine z_iload_n (pc := 4) (n := 3) dX4_moveParts_4 rfl rfl ?_
  refine z_bipush (pc := 5) (a := 6) dX4_moveParts_5 rfl ?_
  refine z_imul (pc := 7) dX4_moveParts_7 ?_
  refine z_iload_n (pc := 8) (n := 1) dX4_moveParts_8 rfl rfl ?_
  refine z_iadd (pc := 9) dX4_moveParts_9 ?_
  refine z_dup2 (pc := 10) dX4_moveParts_10 rfl rfl ?_
  obtain ⟨c1, c2, Q⟩ := Q
  refine z_iald (pc := 11) (za_held hb) c1 c2 dX4_moveParts_11 ?_
  refine z_iload (pc := 12) (n := 4) dX4_moveParts_12 rfl ?_
  refine z_isub (pc := 14) dX4_moveParts_14 ?_
  obtain ⟨c3, c4, Q⟩ := Q
  refine z_iast (pc := 15) (za_held hb) c3 c4 dX4_moveParts_15 ?_
  refine z_heap (fun h5 eh5 => ?_)
  replace Q := Q h5 eh5
  refine z_aload_n (pc := 16) (n := 0) dX4_moveParts_16 rfl rfl ?_
  refine z_getR (pc := 17) (q2 := b + 4) (zo_State hb) rfl inT4 (i := 3) (by decide) wf_X4_21 rfl (fun _ _ => rfl) dX4_moveParts_17 ?_
  refine z_iload_n (pc := 20) (n := 3) dX4_moveParts_20 rfl rfl ?_
  refine z_bipush (pc := 21) (a := 6) dX4_moveParts_21 rfl ?_
  refine z_imul (pc := 23) dX4_moveParts_23 ?_
  refine z_iload_n (pc := 24) (n := 2) dX4_moveParts_24 rfl rfl ?_
  refine z_iadd (pc := 25) dX4_moveParts_25 ?_
  refine z_dup2 (pc := 26) dX4_moveParts_26 rfl rfl ?_
  obtain ⟨c6, c7, Q⟩ := Q
  refine z_iald (pc := 27) (za_held hb) c6 c7 dX4_moveParts_27 ?_
  refine z_iload (pc := 28) (n := 4) dX4_moveParts_28 rfl ?_
  refine z_iadd (pc := 30) dX4_moveParts_30 ?_
  obtain ⟨c8, c9, Q⟩ := Q
  refine z_iast (pc := 31) (za_held hb) c8 c9 dX4_moveParts_31 ?_
  refine z_heap (fun h10 eh10 => ?_)
  replace Q := Q h10 eh10
  exact z_vret (pc := 32) rfl dX4_moveParts_32 Q
set_option maxHeartbeats 4000000 in
set_option maxRecDepth 100000 in
theorem k_X4_setClaim_0 {d : Nat} {Post : Option zA → zH → Prop} {Γ : zCx} {h : zH} {b : Nat} {a1 : Int} {a2 : Int} {a3 : Int} (hb : zSt b) (hd : 2 ≤ d) (Q :
 ((¬ (0 ≤ a1 ∧ a1 ≤ 5) →
  Post (some (zI (-1))) h) ∧
 (0 ≤ a1 ∧ a1 ≤ 5 →
  ((0 ≤ a2 ∧ a2 ≤ 5 →
   ∃ (d1 : Nat) (P2 : Option zA → zH → Prop), d1 + 1 ≤ d ∧ zSp d1 mX0_placeOf [zR (b + 6), zI a1, zI a2] h P2 ∧ ∀ r3 h4, P2 r3 h4 →
   ∃ x7 : Int, r3 = some (zI x7) ∧
   ((x7 < 0 →
    zV RX4 cX4_setClaim 5 (some .int) d Post Γ 38 [(0, zR b), (1, zI a1), (2, zI a2), (3, zI a3), (4, zI x7)] [zI 0, zI a3] h4) ∧
   (¬ x7 < 0 →
    zV RX4 cX4_setClaim 5 (some .int) d Post Γ 38 [(0, zR b), (1, zI a1), (2, zI a2), (3, zI a3), (4, zI x7)] [zI 1, zI a3] h4))) ∧
  (¬ (0 ≤ a2 ∧ a2 ≤ 5) →
   Post (some (zI (-1))) h))))) :
    zV RX4 cX4_setClaim 5 (some .int) d Post Γ 0 [(0, zR b), (1, zI a1), (2, zI a2), (3, zI a3)] [] h := by
  refine z_iload_n (pc := 0) (n := 1) dX4_setClaim_0 rfl rfl ?_
  refine z_callN (pc := 1) (M := mX6_isAgent) (as := [_]) (st := []) c_X6_isAgent wt_X6_isAgent wm_X6_isAgent ⟨by omega, by decide⟩ wl_X4_58 dX4_setClaim_1 rfl (Nat.le_of_ble_eq_true rfl) rfl ?_
  rintro _ _ ⟨rfl, rfl⟩
  refine z_ifb_eq (pc := 4) (tgt := 14) dX4_setClaim_4 (by decide) (fun c => ?_) (fun c => ?_)
  · replace Q := Q.1 c
    refine z_iconst (pc := 14) (a := -1) dX4_setClaim_14 rfl ?_
    exact z_iret (pc := 15) rfl dX4_setClaim_15 Q
  · replace Q := Q.2 c
    refine z_iload_n (pc := 7) (n := 2) dX4_setClaim_7 rfl rfl ?_
    refine z_callN (pc := 8) (M := mX6_isCell) (as := [_]) (st := []) c_X6_isCell wt_X6_isCell wm_X6_isCell ⟨by omega, by decide⟩ wl_X4_62 dX4_setClaim_8 rfl (Nat.le_of_ble_eq_true rfl) rfl ?_
    rintro _ _ ⟨rfl, rfl⟩
    refine z_ifb_ne (pc := 11) (tgt := 16) dX4_setClaim_11 (by decide) (fun c => ?_) (fun c => ?_)
    · replace Q := Q.1 c
      refine z_aload_n (pc := 16) (n := 0) dX4_setClaim_16 rfl rfl ?_
      refine z_getR (pc := 17) (q2 := b + 6) (zo_State hb) rfl inT4 (i := 5) (by decide) wf_X4_30 rfl (fun _ _ => rfl) dX4_setClaim_17 ?_
      refine z_iload_n (pc := 20) (n := 1) dX4_setClaim_20 rfl rfl ?_
      refine z_iload_n (pc := 21) (n := 2) dX4_setClaim_21 rfl rfl ?_
      obtain ⟨d1, P2, e5, s6, Q⟩ := Q
      refine z_callV (pc := 22) (M := mX0_placeOf) (as := [_, _]) (st := []) s6 (zo_Claims hb) rfl wi_X0_placeOf wm_X0_placeOf ⟨by omega, by decide⟩ wl_X4_111 dX4_setClaim_22 rfl (Nat.le_of_ble_eq_true rfl) rfl ?_
      intro r3 h4 s6
      obtain ⟨x7, rfl, Q⟩ := Q _ _ s6
      refine z_istore (pc := 25) (ls' := [(4, _), (0, _), (1, _), (2, _), (3, _)]) dX4_setClaim_25 (by decide) rfl ?_
      refine z_iload_n (pc := 27) (n := 4) dX4_setClaim_27 rfl rfl ?_
      refine z_iload (pc := 28) (n := 0) dX4_setClaim_28 rfl ?_
      refine z_if_lt (pc := 30) (tgt := 37) dX4_setClaim_30 (by decide) (fun c => ?_) (fun c => ?_)
      · replace Q := Q.1 c
        refine z_iconst (pc := 37) (a := 0) dX4_setClaim_37 rfl ?_
        exact z_sub (ks := [1, 2, 3, 4, 0]) rfl Q
      · replace Q := Q.2 c
        refine z_iconst (pc := 33) (a := 1) dX4_setClaim_33 rfl ?_
        refine z_goto (pc := 34) (tgt := 38) dX4_setClaim_34 (by decide) ?_
        exact z_sub (ks := [1, 2, 3, 4, 0]) rfl Q
    · replace Q := Q.2 c
      refine z_iconst (pc := 14) (a := -1) dX4_setClaim_14 rfl ?_
      exact z_iret (pc := 15) rfl dX4_setClaim_15 Q
set_option maxHeartbeats 4000000 in
set_option maxRecDepth 100000 in
theorem k_X4_setClaim_38 {d : Nat} {Post : Option zA → zH → Prop} {Γ : zCx} {h : zH} {b : Nat} {v1 : Int} {v2 : Int} {v3 : Int} {v4 : Int} {w0 : Int} {w1 : Int} (hb : zSt b) (hd : 2 ≤ d) (Q :
 ((¬ w1 = w0 →
  ((v3 = 0 →
   ∃ (d1 : Nat) (P2 : Option zA → zH → Prop), d1 + 1 ≤ d ∧ zSp d1 mX0_remove [zR (b + 6), zI v2, zI v4] h P2 ∧ ∀ r3 h4, P2 r3 h4 →
   r3 = none ∧
   (0 ≤ v2 ∧ v2 ≤ 5) ∧
   Post (some (zI (h4 (b + 8) v2.toNat))) h4) ∧
  (¬ v3 = 0 →
   ∃ (d8 : Nat) (P9 : Option zA → zH → Prop), d8 + 1 ≤ d ∧ zSp d8 mX0_append [zR (b + 6), zI v1, zI v2] h P9 ∧ ∀ r10 h11, P9 r10 h11 →
   r10 = none ∧
   (0 ≤ v2 ∧ v2 ≤ 5) ∧
   Post (some (zI (h11 (b + 8) v2.toNat))) h11))) ∧
 (w1 = w0 →
  Post (some (zI (-5))) h))) :
    zV RX4 cX4_setClaim 5 (some .int) d Post Γ 38 [(0, zR b), (1, zI v1), (2, zI v2), (3, zI v3), (4, zI v4)] [zI w0, zI w1] h := by
  refine z_icmp_ne (pc := 38) (tgt := 44) dX4_setClaim_38 (by decide) (fun c => ?_) (fun c => ?_)
  · replace Q := Q.1 c
    refine z_iload_n (pc := 44) (n := 3) dX4_setClaim_44 rfl rfl ?_
    refine z_if_eq (pc := 45) (tgt := 60) dX4_setClaim_45 (by decide) (fun c => ?_) (fun c => ?_)
    · replace Q := Q.1 c
      refine z_aload_n (pc := 60) (n := 0) dX4_setClaim_60 rfl rfl ?_
      refine z_getR (pc := 61) (q2 := b + 6) (zo_State hb) rfl inT4 (i := 5) (by decide) wf_X4_30 rfl (fun _ _ => rfl) dX4_setClaim_61 ?_
      refine z_iload_n (pc := 64) (n := 2) dX4_setClaim_64 rfl rfl ?_
      refine z_iload (pc := 65) (n := 4) dX4_setClaim_65 rfl ?_
      obtain ⟨d1, P2, e5, s6, Q⟩ := Q
      refine z_callV (pc := 67) (M := mX0_remove) (as := [_, _]) (st := []) s6 (zo_Claims hb) rfl wi_X0_remove wm_X0_remove ⟨by omega, by decide⟩ wl_X4_117 dX4_setClaim_67 rfl (Nat.le_of_ble_eq_true rfl) rfl ?_
      intro r3 h4 s6
      obtain ⟨rfl, Q⟩ := Q _ _ s6
      refine z_aload_n (pc := 70) (n := 0) dX4_setClaim_70 rfl rfl ?_
      refine z_getR (pc := 71) (q2 := b + 6) (zo_State hb) rfl inT4 (i := 5) (by decide) wf_X4_30 rfl (fun _ _ => rfl) dX4_setClaim_71 ?_
      refine z_iload_n (pc := 74) (n := 2) dX4_setClaim_74 rfl rfl ?_
      obtain ⟨c7, Q⟩ := Q
      refine z_callV (pc := 75) (M := mX0_size) (as := [_]) (st := []) (c_X0_size hb c7) (zo_Claims hb) rfl wi_X0_size wm_X0_size ⟨by omega, by decide⟩ wl_X4_119 dX4_setClaim_75 rfl (Nat.le_of_ble_eq_true rfl) rfl ?_
      rintro _ _ ⟨rfl, rfl⟩
      exact z_iret (pc := 78) rfl dX4_setClaim_78 Q
    · replace Q := Q.2 c
      refine z_aload_n (pc := 48) (n := 0) dX4_setClaim_48 rfl rfl ?_
      refine z_getR (pc := 49) (q2 := b + 6) (zo_State hb) rfl inT4 (i := 5) (by decide) wf_X4_30 rfl (fun _ _ => rfl) dX4_setClaim_49 ?_
      refine z_iload_n (pc := 52) (n := 1) dX4_setClaim_52 rfl rfl ?_
      refine z_iload_n (pc := 53) (n := 2) dX4_setClaim_53 rfl rfl ?_
      obtain ⟨d8, P9, e12, s13, Q⟩ := Q
      refine z_callV (pc := 54) (M := mX0_append) (as := [_, _]) (st := []) s13 (zo_Claims hb) rfl wi_X0_append wm_X0_append ⟨by omega, by decide⟩ wl_X4_114 dX4_setClaim_54 rfl (Nat.le_of_ble_eq_true rfl) rfl ?_
      intro r10 h11 s13
      obtain ⟨rfl, Q⟩ := Q _ _ s13
      refine z_goto (pc := 57) (tgt := 70) dX4_setClaim_57 (by decide) ?_
      refine z_aload_n (pc := 70) (n := 0) dX4_setClaim_70 rfl rfl ?_
      refine z_getR (pc := 71) (q2 := b + 6) (zo_State hb) rfl inT4 (i := 5) (by decide) wf_X4_30 rfl (fun _ _ => rfl) dX4_setClaim_71 ?_
      refine z_iload_n (pc := 74) (n := 2) dX4_setClaim_74 rfl rfl ?_
      obtain ⟨c14, Q⟩ := Q
      refine z_callV (pc := 75) (M := mX0_size) (as := [_]) (st := []) (c_X0_size hb c14) (zo_Claims hb) rfl wi_X0_size wm_X0_size ⟨by omega, by decide⟩ wl_X4_119 dX4_setClaim_75 rfl (Nat.le_of_ble_eq_true rfl) rfl ?_
      rintro _ _ ⟨rfl, rfl⟩
      exact z_iret (pc := 78) rfl dX4_setClaim_78 Q
  · replace Q := Q.2 c
    refine z_bipush (pc := 41) (a := -5) dX4_setClaim_41 rfl ?_
    exact z_iret (pc := 43) rfl dX4_setClaim_43 Q
set_option maxHeartbeats 4000000 in
set_option maxRecDepth 100000 in
theorem k_X4_setHolding_0 {d : Nat} {Post : Option zA → zH → Prop} {Γ : zCx} {h : zH} {b : Nat} {a1 : Int} {a2 : Int} {a3 : Int} (hb : zSt b) (hd : 2 ≤ d) (Q :
 ((¬ (0 ≤ a1 ∧ a1 ≤ 5) →
  Post (some (zI (-1))) h) ∧
 (0 ≤ a1 ∧ a1 ≤ 5 →
  ((0 ≤ a2 ∧ a2 ≤ 5 →
   ((a3 = 0 →
    zV RX4 cX4_setHolding 4 (some .int) d Post Γ 32 [(0, zR b), (1, zI a1), (2, zI a2), (3, zI a3)] [] h) ∧
   (¬ a3 = 0 →
    (0 ≤ a1 ∧ a1 ≤ 5) ∧
    (0 ≤ a2 ∧ a2 ≤ 5) ∧
    ((¬ (h (b + 4) (6 * a2 + a1).toNat) = 0 →
     zV RX4 cX4_setHolding 4 (some .int) d Post Γ 32 [(0, zR b), (1, zI a1), (2, zI a2), (3, zI a3)] [] h) ∧
    ((h (b + 4) (6 * a2 + a1).toNat) = 0 →
     Post (some (zI (-4))) h))))) ∧
  (¬ (0 ≤ a2 ∧ a2 ≤ 5) →
   Post (some (zI (-1))) h))))) :
    zV RX4 cX4_setHolding 4 (some .int) d Post Γ 0 [(0, zR b), (1, zI a1), (2, zI a2), (3, zI a3)] [] h := by
  refine z_iload_n (pc := 0) (n := 1) dX4_setHolding_0 rfl rfl ?_
  refine z_callN (pc := 1) (M := mX6_isAgent) (as := [_]) (st := []) c_X6_isAgent wt_X6_isAgent wm_X6_isAgent ⟨by omega, by decide⟩ wl_X4_58 dX4_setHolding_1 rfl (Nat.le_of_ble_eq_true rfl) rfl ?_
  rintro _ _ ⟨rfl, rfl⟩
  refine z_ifb_eq (pc := 4) (tgt := 14) dX4_setHolding_4 (by decide) (fun c => ?_) (fun c => ?_)
  · replace Q := Q.1 c
    refine z_iconst (pc := 14) (a := -1) dX4_setHolding_14 rfl ?_
    exact z_iret (pc := 15) rfl dX4_setHolding_15 Q
  · replace Q := Q.2 c
    refine z_iload_n (pc := 7) (n := 2) dX4_setHolding_7 rfl rfl ?_
    refine z_callN (pc := 8) (M := mX6_isCell) (as := [_]) (st := []) c_X6_isCell wt_X6_isCell wm_X6_isCell ⟨by omega, by decide⟩ wl_X4_62 dX4_setHolding_8 rfl (Nat.le_of_ble_eq_true rfl) rfl ?_
    rintro _ _ ⟨rfl, rfl⟩
    refine z_ifb_ne (pc := 11) (tgt := 16) dX4_setHolding_11 (by decide) (fun c => ?_) (fun c => ?_)
    · replace Q := Q.1 c
      refine z_iload_n (pc := 16) (n := 3) dX4_setHolding_16 rfl rfl ?_
      refine z_if_eq (pc := 17) (tgt := 32) dX4_setHolding_17 (by decide) (fun c => ?_) (fun c => ?_)
      · replace Q := Q.1 c
        exact z_sub (ks := [0, 1, 2, 3]) rfl Q
      · replace Q := Q.2 c
        refine z_aload_n (pc := 20) (n := 0) dX4_setHolding_20 rfl rfl ?_
        refine z_iload_n (pc := 21) (n := 1) dX4_setHolding_21 rfl rfl ?_
        refine z_iload_n (pc := 22) (n := 2) dX4_setHolding_22 rfl rfl ?_
        obtain ⟨c1, Q⟩ := Q
        obtain ⟨c2, Q⟩ := Q
        refine z_callV (pc := 23) (M := mX4_heldBy) (as := [_, _]) (st := []) (c_X4_heldBy hb c1 c2) (zo_State hb) rfl wi_X4_heldBy wm_X4_heldBy ⟨by omega, by decide⟩ wl_X4_65 dX4_setHolding_23 rfl (Nat.le_of_ble_eq_true rfl) rfl ?_
        rintro _ _ ⟨rfl, rfl⟩
        refine z_if_ne (pc := 26) (tgt := 32) dX4_setHolding_26 (by decide) (fun c => ?_) (fun c => ?_)
        · replace Q := Q.1 c
          exact z_sub (ks := [0, 1, 2, 3]) rfl Q
        · replace Q := Q.2 c
          refine z_bipush (pc := 29) (a := -4) dX4_setHolding_29 rfl ?_
          exact z_iret (pc := 31) rfl dX4_setHolding_31 Q
    · replace Q := Q.2 c
      refine z_iconst (pc := 14) (a := -1) dX4_setHolding_14 rfl ?_
      exact z_iret (pc := 15) rfl dX4_setHolding_15 Q
set_option maxHeartbeats 4000000 in
set_option maxRecDepth 100000 in
theorem k_X4_setHolding_32 {d : Nat} {Post : Option zA → zH → Prop} {Γ : zCx} {h : zH} {b : Nat} {v1 : Int} {v2 : Int} {v3 : Int} (hb : zSt b) (hd : 2 ≤ d) (Q :
 (0 ≤ v1 ∧ v1 ≤ 5) ∧
 (0 ≤ v2 ∧ v2 ≤ 5) ∧
 ((¬ v3 = (if ¬ zand (h (b + 5) v2.toNat) (zshl 1 v1) = 0 then 1 else 0) →
  0 ≤ v2 ∧ v2 < 6 ∧
  0 ≤ v2 ∧ v2 < 6 ∧
  ∀ h7 : zH, h7 = zu h (b + 5) v2.toNat (zxor (h (b + 5) v2.toNat) (zshl 1 v1)) →
  0 ≤ v2 ∧ v2 < 6 ∧
  Post (some (zI (h7 (b + 1) v2.toNat))) h7) ∧
 (v3 = (if ¬ zand (h (b + 5) v2.toNat) (zshl 1 v1) = 0 then 1 else 0) →
  Post (some (zI (-5))) h))) :
    zV RX4 cX4_setHolding 4 (some .int) d Post Γ 32 [(0, zR b), (1, zI v1), (2, zI v2), (3, zI v3)] [] h := by
  refine z_iload_n (pc := 32) (n := 3) dX4_setHolding_32 rfl rfl ?_
  refine z_aload_n (pc := 33) (n := 0) dX4_setHolding_33 rfl rfl ?_
  refine z_iload_n (pc := 34) (n := 1) dX4_setHolding_34 rfl rfl ?_
  refine z_iload_n (pc := 35) (n := 2) dX4_setHolding_35 rfl rfl ?_
  obtain ⟨c1, Q⟩ := Q
  obtain ⟨c2, Q⟩ := Q
  refine z_callV (pc := 36) (M := mX4_isHolding) (as := [_, _]) (st := [_]) (c_X4_isHolding hb c1 c2) (zo_State hb) rfl wi_X4_isHolding wm_X4_isHolding ⟨by omega, by decide⟩ wl_X4_69 dX4_setHolding_36 rfl (Nat.le_of_ble_eq_true rfl) rfl ?_
  rintro _ _ ⟨rfl, rfl⟩
  refine z_icmp_ne (pc := 39) (tgt := 45) dX4_setHolding_39 (by decide) (fun c => ?_) (fun c => ?_)
  · replace Q := Q.1 c
    refine z_aload_n (pc := 45) (n := 0) dX4_setHolding_45 rfl rfl ?_
    refine z_getR (pc := 46) (q2 := b + 5) (zo_State hb) rfl inT4 (i := 4) (by decide) wf_X4_24 rfl (fun _ _ => rfl) dX4_setHolding_46 ?_
    refine z_iload_n (pc := 49) (n := 2) dX4_setHolding_49 rfl rfl ?_
    refine z_dup2 (pc := 50) dX4_setHolding_50 rfl rfl ?_
    obtain ⟨c3, c4, Q⟩ := Q
    refine z_iald (pc := 51) (za_holding hb) c3 c4 dX4_setHolding_51 ?_
    refine z_iconst (pc := 52) (a := 1) dX4_setHolding_52 rfl ?_
    refine z_iload_n (pc := 53) (n := 1) dX4_setHolding_53 rfl rfl ?_
    refine z_ishl (pc := 54) dX4_setHolding_54 ?_
    refine z_ixor (pc := 55) dX4_setHolding_55 ?_
    obtain ⟨c5, c6, Q⟩ := Q
    refine z_iast (pc := 56) (za_holding hb) c5 c6 dX4_setHolding_56 ?_
    refine z_heap (fun h7 eh7 => ?_)
    replace Q := Q h7 eh7
    refine z_aload_n (pc := 57) (n := 0) dX4_setHolding_57 rfl rfl ?_
    refine z_getR (pc := 58) (q2 := b + 1) (zo_State hb) rfl inT4 (i := 0) (by decide) wf_X4_9 rfl (fun _ _ => rfl) dX4_setHolding_58 ?_
    refine z_iload_n (pc := 61) (n := 2) dX4_setHolding_61 rfl rfl ?_
    obtain ⟨c8, c9, Q⟩ := Q
    refine z_iald (pc := 62) (za_value hb) c8 c9 dX4_setHolding_62 ?_
    exact z_iret (pc := 63) rfl dX4_setHolding_63 Q
  · replace Q := Q.2 c
    refine z_bipush (pc := 42) (a := -5) dX4_setHolding_42 rfl ?_
    exact z_iret (pc := 44) rfl dX4_setHolding_44 Q
set_option maxHeartbeats 4000000 in
set_option maxRecDepth 100000 in
theorem k_X4_writeValue_0 {d : Nat} {Post : Option zA → zH → Prop} {Γ : zCx} {h : zH} {b : Nat} {a1 : Int} {a2 : Int} {a3 : Int} (hb : zSt b) (hd : 2 ≤ d) (Q :
 ((¬ (0 ≤ a1 ∧ a1 ≤ 5) →
  Post (some (zI (-1))) h) ∧
 (0 ≤ a1 ∧ a1 ≤ 5 →
  ((0 ≤ a2 ∧ a2 ≤ 5 →
   ((a3 < 0 →
    Post (some (zI (-2))) h) ∧
   (¬ a3 < 0 →
    ((a3 ≤ 999 →
     (0 ≤ a1 ∧ a1 ≤ 5) ∧
     (0 ≤ a2 ∧ a2 ≤ 5) ∧
     (((h (b + 4) (6 * a2 + a1).toNat) = 64 →
      0 ≤ a2 ∧ a2 < 6 ∧
      ∀ h5 : zH, h5 = zu h (b + 1) a2.toNat a3 →
      0 ≤ a2 ∧ a2 < 6 ∧
      0 ≤ a2 ∧ a2 < 6 ∧
      ∀ h10 : zH, h10 = zu h5 (b + 2) a2.toNat (zwr ((h5 (b + 2) a2.toNat) + 1)) →
      ∀ h11 : zH, h11 = zu h10 b 7 (zwr ((h10 b 7) + 1)) →
      0 ≤ a2 ∧ a2 < 6 ∧
      Post (some (zI (h11 (b + 2) a2.toNat))) h11) ∧
     (¬ (h (b + 4) (6 * a2 + a1).toNat) = 64 →
      Post (some (zI (-4))) h))) ∧
    (¬ a3 ≤ 999 →
     Post (some (zI (-2))) h))))) ∧
  (¬ (0 ≤ a2 ∧ a2 ≤ 5) →
   Post (some (zI (-1))) h))))) :
    zV RX4 cX4_writeValue 4 (some .int) d Post Γ 0 [(0, zR b), (1, zI a1), (2, zI a2), (3, zI a3)] [] h := by
  refine z_iload_n (pc := 0) (n := 1) dX4_writeValue_0 rfl rfl ?_
  refine z_callN (pc := 1) (M := mX6_isAgent) (as := [_]) (st := []) c_X6_isAgent wt_X6_isAgent wm_X6_isAgent ⟨by omega, by decide⟩ wl_X4_58 dX4_writeValue_1 rfl (Nat.le_of_ble_eq_true rfl) rfl ?_
  rintro _ _ ⟨rfl, rfl⟩
  refine z_ifb_eq (pc := 4) (tgt := 14) dX4_writeValue_4 (by decide) (fun c => ?_) (fun c => ?_)
  · replace Q := Q.1 c
    refine z_iconst (pc := 14) (a := -1) dX4_writeValue_14 rfl ?_
    exact z_iret (pc := 15) rfl dX4_writeValue_15 Q
  · replace Q := Q.2 c
    refine z_iload_n (pc := 7) (n := 2) dX4_writeValue_7 rfl rfl ?_
    refine z_callN (pc := 8) (M := mX6_isCell) (as := [_]) (st := []) c_X6_isCell wt_X6_isCell wm_X6_isCell ⟨by omega, by decide⟩ wl_X4_62 dX4_writeValue_8 rfl (Nat.le_of_ble_eq_true rfl) rfl ?_
    rintro _ _ ⟨rfl, rfl⟩
    refine z_ifb_ne (pc := 11) (tgt := 16) dX4_writeValue_11 (by decide) (fun c => ?_) (fun c => ?_)
    · replace Q := Q.1 c
      refine z_iload_n (pc := 16) (n := 3) dX4_writeValue_16 rfl rfl ?_
      refine z_if_lt (pc := 17) (tgt := 27) dX4_writeValue_17 (by decide) (fun c => ?_) (fun c => ?_)
      · replace Q := Q.1 c
        refine z_bipush (pc := 27) (a := -2) dX4_writeValue_27 rfl ?_
        exact z_iret (pc := 29) rfl dX4_writeValue_29 Q
      · replace Q := Q.2 c
        refine z_iload_n (pc := 20) (n := 3) dX4_writeValue_20 rfl rfl ?_
        refine z_sipush (pc := 21) (a := 999) dX4_writeValue_21 rfl ?_
        refine z_icmp_le (pc := 24) (tgt := 30) dX4_writeValue_24 (by decide) (fun c => ?_) (fun c => ?_)
        · replace Q := Q.1 c
          refine z_aload_n (pc := 30) (n := 0) dX4_writeValue_30 rfl rfl ?_
          refine z_iload_n (pc := 31) (n := 1) dX4_writeValue_31 rfl rfl ?_
          refine z_iload_n (pc := 32) (n := 2) dX4_writeValue_32 rfl rfl ?_
          obtain ⟨c1, Q⟩ := Q
          obtain ⟨c2, Q⟩ := Q
          refine z_callV (pc := 33) (M := mX4_heldBy) (as := [_, _]) (st := []) (c_X4_heldBy hb c1 c2) (zo_State hb) rfl wi_X4_heldBy wm_X4_heldBy ⟨by omega, by decide⟩ wl_X4_65 dX4_writeValue_33 rfl (Nat.le_of_ble_eq_true rfl) rfl ?_
          rintro _ _ ⟨rfl, rfl⟩
          refine z_bipush (pc := 36) (a := 64) dX4_writeValue_36 rfl ?_
          refine z_icmp_eq (pc := 38) (tgt := 44) dX4_writeValue_38 (by decide) (fun c => ?_) (fun c => ?_)
          · replace Q := Q.1 c
            refine z_aload_n (pc := 44) (n := 0) dX4_writeValue_44 rfl rfl ?_
            refine z_getR (pc := 45) (q2 := b + 1) (zo_State hb) rfl inT4 (i := 0) (by decide) wf_X4_9 rfl (fun _ _ => rfl) dX4_writeValue_45 ?_
            refine z_iload_n (pc := 48) (n := 2) dX4_writeValue_48 rfl rfl ?_
            refine z_iload_n (pc := 49) (n := 3) dX4_writeValue_49 rfl rfl ?_
            obtain ⟨c3, c4, Q⟩ := Q
            refine z_iast (pc := 50) (za_value hb) c3 c4 dX4_writeValue_50 ?_
            refine z_heap (fun h5 eh5 => ?_)
            replace Q := Q h5 eh5
            refine z_aload_n (pc := 51) (n := 0) dX4_writeValue_51 rfl rfl ?_
            refine z_getR (pc := 52) (q2 := b + 2) (zo_State hb) rfl inT4 (i := 1) (by decide) wf_X4_15 rfl (fun _ _ => rfl) dX4_writeValue_52 ?_
            refine z_iload_n (pc := 55) (n := 2) dX4_writeValue_55 rfl rfl ?_
            refine z_dup2 (pc := 56) dX4_writeValue_56 rfl rfl ?_
            obtain ⟨c6, c7, Q⟩ := Q
            refine z_iald (pc := 57) (za_version hb) c6 c7 dX4_writeValue_57 ?_
            refine z_iconst (pc := 58) (a := 1) dX4_writeValue_58 rfl ?_
            refine z_iadd (pc := 59) dX4_writeValue_59 ?_
            obtain ⟨c8, c9, Q⟩ := Q
            refine z_iast (pc := 60) (za_version hb) c8 c9 dX4_writeValue_60 ?_
            refine z_heap (fun h10 eh10 => ?_)
            replace Q := Q h10 eh10
            refine z_aload_n (pc := 61) (n := 0) dX4_writeValue_61 rfl rfl ?_
            refine z_dup (pc := 62) dX4_writeValue_62 rfl ?_
            refine z_getI (pc := 63) (zo_State hb) rfl inT4 (i := 7) (by decide) wf_X4_54 rfl (fun _ _ => rfl) dX4_writeValue_63 ?_
            refine z_iconst (pc := 66) (a := 1) dX4_writeValue_66 rfl ?_
            refine z_iadd (pc := 67) dX4_writeValue_67 ?_
            refine z_putI (pc := 68) (zo_State hb) rfl inT4 (i := 7) (by decide) wf_X4_54 rfl tyX4 tyX4_ok nmX4 rfl (fun _ _ => Nat.le_of_ble_eq_true rfl) (fun _ _ _ => rfl) rfl dX4_writeValue_68 ?_
            refine z_heap (fun h11 eh11 => ?_)
            replace Q := Q h11 eh11
            refine z_aload_n (pc := 71) (n := 0) dX4_writeValue_71 rfl rfl ?_
            refine z_getR (pc := 72) (q2 := b + 2) (zo_State hb) rfl inT4 (i := 1) (by decide) wf_X4_15 rfl (fun _ _ => rfl) dX4_writeValue_72 ?_
            refine z_iload_n (pc := 75) (n := 2) dX4_writeValue_75 rfl rfl ?_
            obtain ⟨c12, c13, Q⟩ := Q
            refine z_iald (pc := 76) (za_version hb) c12 c13 dX4_writeValue_76 ?_
            exact z_iret (pc := 77) rfl dX4_writeValue_77 Q
          · replace Q := Q.2 c
            refine z_bipush (pc := 41) (a := -4) dX4_writeValue_41 rfl ?_
            exact z_iret (pc := 43) rfl dX4_writeValue_43 Q
        · replace Q := Q.2 c
          refine z_bipush (pc := 27) (a := -2) dX4_writeValue_27 rfl ?_
          exact z_iret (pc := 29) rfl dX4_writeValue_29 Q
    · replace Q := Q.2 c
      refine z_iconst (pc := 14) (a := -1) dX4_writeValue_14 rfl ?_
      exact z_iret (pc := 15) rfl dX4_writeValue_15 Q
