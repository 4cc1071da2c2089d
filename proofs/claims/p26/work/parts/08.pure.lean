/-! small methods that read or compute alone: their walks and contracts (printed by wip/gen/genk.py) -/
set_option maxHeartbeats 4000000 in
set_option maxRecDepth 100000 in
theorem k_X6_isAgent_0 {d : Nat} {Post : Option zA → zH → Prop} {Γ : zCx} {h : zH} {a1 : Int}  (hd : 1 ≤ d) (Q :
 ((a1 < 0 →
  Post (some (zI 0)) h) ∧
 (¬ a1 < 0 →
  ((6 ≤ a1 →
   Post (some (zI 0)) h) ∧
  (¬ 6 ≤ a1 →
   Post (some (zI 1)) h))))) :
    zV RX6 cX6_isAgent 1 (some .boolean) d Post Γ 0 [(0, zI a1)] [] h := by
  refine z_iload_n (pc := 0) (n := 0) dX6_isAgent_0 rfl rfl ?_
  refine z_if_lt (pc := 1) (tgt := 14) dX6_isAgent_1 (by decide) (fun c => ?_) (fun c => ?_)
  · replace Q := Q.1 c
    refine z_iconst (pc := 14) (a := 0) dX6_isAgent_14 rfl ?_
    exact z_zret (pc := 15) rfl (by decide) dX6_isAgent_15 Q
  · replace Q := Q.2 c
    refine z_iload_n (pc := 4) (n := 0) dX6_isAgent_4 rfl rfl ?_
    refine z_bipush (pc := 5) (a := 6) dX6_isAgent_5 rfl ?_
    refine z_icmp_ge (pc := 7) (tgt := 14) dX6_isAgent_7 (by decide) (fun c => ?_) (fun c => ?_)
    · replace Q := Q.1 c
      refine z_iconst (pc := 14) (a := 0) dX6_isAgent_14 rfl ?_
      exact z_zret (pc := 15) rfl (by decide) dX6_isAgent_15 Q
    · replace Q := Q.2 c
      refine z_iconst (pc := 10) (a := 1) dX6_isAgent_10 rfl ?_
      refine z_goto (pc := 11) (tgt := 15) dX6_isAgent_11 (by decide) ?_
      exact z_zret (pc := 15) rfl (by decide) dX6_isAgent_15 Q
theorem c_X6_isAgent {h : zH} {a1 : Int} : zSp 1 mX6_isAgent [zI a1] h (fun r h' => r = some (zI (if 0 ≤ a1 ∧ a1 ≤ 5 then 1 else 0)) ∧ h = h') := by
  refine zSp_of (by decide +kernel) (Nat.le_of_ble_eq_true rfl) rfl (fun Γ => k_X6_isAgent_0 (Nat.le_refl _) ?_)
  refine ⟨fun c => ⟨?_, rfl⟩, fun c => ⟨fun c2 => ⟨?_, rfl⟩, fun c2 => ⟨?_, rfl⟩⟩⟩
  · rw [if_neg (by omega)]
  · rw [if_neg (by omega)]
  · rw [if_pos (by omega)]
set_option maxHeartbeats 4000000 in
set_option maxRecDepth 100000 in
theorem k_X6_isCell_0 {d : Nat} {Post : Option zA → zH → Prop} {Γ : zCx} {h : zH} {a1 : Int}  (hd : 1 ≤ d) (Q :
 ((a1 < 0 →
  Post (some (zI 0)) h) ∧
 (¬ a1 < 0 →
  ((6 ≤ a1 →
   Post (some (zI 0)) h) ∧
  (¬ 6 ≤ a1 →
   Post (some (zI 1)) h))))) :
    zV RX6 cX6_isCell 1 (some .boolean) d Post Γ 0 [(0, zI a1)] [] h := by
  refine z_iload_n (pc := 0) (n := 0) dX6_isCell_0 rfl rfl ?_
  refine z_if_lt (pc := 1) (tgt := 14) dX6_isCell_1 (by decide) (fun c => ?_) (fun c => ?_)
  · replace Q := Q.1 c
    refine z_iconst (pc := 14) (a := 0) dX6_isCell_14 rfl ?_
    exact z_zret (pc := 15) rfl (by decide) dX6_isCell_15 Q
  · replace Q := Q.2 c
    refine z_iload_n (pc := 4) (n := 0) dX6_isCell_4 rfl rfl ?_
    refine z_bipush (pc := 5) (a := 6) dX6_isCell_5 rfl ?_
    refine z_icmp_ge (pc := 7) (tgt := 14) dX6_isCell_7 (by decide) (fun c => ?_) (fun c => ?_)
    · replace Q := Q.1 c
      refine z_iconst (pc := 14) (a := 0) dX6_isCell_14 rfl ?_
      exact z_zret (pc := 15) rfl (by decide) dX6_isCell_15 Q
    · replace Q := Q.2 c
      refine z_iconst (pc := 10) (a := 1) dX6_isCell_10 rfl ?_
      refine z_goto (pc := 11) (tgt := 15) dX6_isCell_11 (by decide) ?_
      exact z_zret (pc := 15) rfl (by decide) dX6_isCell_15 Q
theorem c_X6_isCell {h : zH} {a1 : Int} : zSp 1 mX6_isCell [zI a1] h (fun r h' => r = some (zI (if 0 ≤ a1 ∧ a1 ≤ 5 then 1 else 0)) ∧ h = h') := by
  refine zSp_of (by decide +kernel) (Nat.le_of_ble_eq_true rfl) rfl (fun Γ => k_X6_isCell_0 (Nat.le_refl _) ?_)
  refine ⟨fun c => ⟨?_, rfl⟩, fun c => ⟨fun c2 => ⟨?_, rfl⟩, fun c2 => ⟨?_, rfl⟩⟩⟩
  · rw [if_neg (by omega)]
  · rw [if_neg (by omega)]
  · rw [if_pos (by omega)]
set_option maxHeartbeats 4000000 in
set_option maxRecDepth 100000 in
theorem k_X4_heldBy_0 {d : Nat} {Post : Option zA → zH → Prop} {Γ : zCx} {h : zH} {b : Nat} {a1 : Int} {a2 : Int} (hb : zSt b) (hd : 1 ≤ d) (Q :
 0 ≤ (zwr ((zwr (a2 * 6)) + a1)) ∧ (zwr ((zwr (a2 * 6)) + a1)) < 36 ∧
 Post (some (zI (h (b + 4) (zwr ((zwr (a2 * 6)) + a1)).toNat))) h) :
    zV RX4 cX4_heldBy 3 (some .int) d Post Γ 0 [(0, zR b), (1, zI a1), (2, zI a2)] [] h := by
  refine z_aload_n (pc := 0) (n := 0) dX4_heldBy_0 rfl rfl ?_
  refine z_getR (pc := 1) (q2 := b + 4) (zo_State hb) rfl inT4 (i := 3) (by decide) wf_X4_21 rfl (fun _ _ => rfl) dX4_heldBy_1 ?_
  refine z_iload_n (pc := 4) (n := 2) dX4_heldBy_4 rfl rfl ?_
  refine z_bipush (pc := 5) (a := 6) dX4_heldBy_5 rfl ?_
  refine z_imul (pc := 7) dX4_heldBy_7 ?_
  refine z_iload_n (pc := 8) (n := 1) dX4_heldBy_8 rfl rfl ?_
  refine z_iadd (pc := 9) dX4_heldBy_9 ?_
  obtain ⟨c1, c2, Q⟩ := Q
  refine z_iald (pc := 10) (za_held hb) c1 c2 dX4_heldBy_10 ?_
  exact z_iret (pc := 11) rfl dX4_heldBy_11 Q
theorem c_X4_heldBy {h : zH} {b : Nat} {a1 a2 : Int} (hb : zSt b) (c1 : 0 ≤ a1 ∧ a1 ≤ 5) (c2 : 0 ≤ a2 ∧ a2 ≤ 5) : zSp 1 mX4_heldBy [zR b, zI a1, zI a2] h (fun r h' => r = some (zI (h (b + 4) (6 * a2 + a1).toNat)) ∧ h = h') := by
  refine zSp_of (by decide +kernel) (Nat.le_of_ble_eq_true rfl) rfl (fun Γ => k_X4_heldBy_0 hb (Nat.le_refl _) ?_)
  rw [show zwr (zwr (a2 * 6) + a1) = 6 * a2 + a1 by simp (disch := omega) only [zwr_eq]; omega]
  exact ⟨by omega, by omega, rfl, rfl⟩
set_option maxHeartbeats 4000000 in
set_option maxRecDepth 100000 in
theorem k_X4_isHolding_0 {d : Nat} {Post : Option zA → zH → Prop} {Γ : zCx} {h : zH} {b : Nat} {a1 : Int} {a2 : Int} (hb : zSt b) (hd : 1 ≤ d) (Q :
 0 ≤ a2 ∧ a2 < 6 ∧
 (((zand (h (b + 5) a2.toNat) (zshl 1 a1)) = 0 →
  Post (some (zI 0)) h) ∧
 (¬ (zand (h (b + 5) a2.toNat) (zshl 1 a1)) = 0 →
  Post (some (zI 1)) h))) :
    zV RX4 cX4_isHolding 3 (some .boolean) d Post Γ 0 [(0, zR b), (1, zI a1), (2, zI a2)] [] h := by
  refine z_aload_n (pc := 0) (n := 0) dX4_isHolding_0 rfl rfl ?_
  refine z_getR (pc := 1) (q2 := b + 5) (zo_State hb) rfl inT4 (i := 4) (by decide) wf_X4_24 rfl (fun _ _ => rfl) dX4_isHolding_1 ?_
  refine z_iload_n (pc := 4) (n := 2) dX4_isHolding_4 rfl rfl ?_
  obtain ⟨c1, c2, Q⟩ := Q
  refine z_iald (pc := 5) (za_holding hb) c1 c2 dX4_isHolding_5 ?_
  refine z_iconst (pc := 6) (a := 1) dX4_isHolding_6 rfl ?_
  refine z_iload_n (pc := 7) (n := 1) dX4_isHolding_7 rfl rfl ?_
  refine z_ishl (pc := 8) dX4_isHolding_8 ?_
  refine z_iand (pc := 9) dX4_isHolding_9 ?_
  refine z_if_eq (pc := 10) (tgt := 17) dX4_isHolding_10 (by decide) (fun c => ?_) (fun c => ?_)
  · replace Q := Q.1 c
    refine z_iconst (pc := 17) (a := 0) dX4_isHolding_17 rfl ?_
    exact z_zret (pc := 18) rfl (by decide) dX4_isHolding_18 Q
  · replace Q := Q.2 c
    refine z_iconst (pc := 13) (a := 1) dX4_isHolding_13 rfl ?_
    refine z_goto (pc := 14) (tgt := 18) dX4_isHolding_14 (by decide) ?_
    exact z_zret (pc := 18) rfl (by decide) dX4_isHolding_18 Q
theorem c_X4_isHolding {h : zH} {b : Nat} {a1 a2 : Int} (hb : zSt b) (c1 : 0 ≤ a1 ∧ a1 ≤ 5) (c2 : 0 ≤ a2 ∧ a2 ≤ 5) : zSp 1 mX4_isHolding [zR b, zI a1, zI a2] h (fun r h' => r = some (zI (if ¬ zand (h (b + 5) a2.toNat) (zshl 1 a1) = 0 then 1 else 0)) ∧ h = h') := by
  refine zSp_of (by decide +kernel) (Nat.le_of_ble_eq_true rfl) rfl (fun Γ => k_X4_isHolding_0 hb (Nat.le_refl _) ?_)
  refine ⟨by omega, by omega, fun c => ⟨?_, rfl⟩, fun c => ⟨?_, rfl⟩⟩
  · rw [if_neg (fun q => q c)]
  · rw [if_pos c]
set_option maxHeartbeats 4000000 in
set_option maxRecDepth 100000 in
theorem k_X0_size_0 {d : Nat} {Post : Option zA → zH → Prop} {Γ : zCx} {h : zH} {b : Nat} {a1 : Int} (hb : zSt b) (hd : 1 ≤ d) (Q :
 0 ≤ a1 ∧ a1 < 6 ∧
 Post (some (zI (h (b + 8) a1.toNat))) h) :
    zV RX0 cX0_size 2 (some .int) d Post Γ 0 [(0, zR (b + 6)), (1, zI a1)] [] h := by
  refine z_aload_n (pc := 0) (n := 0) dX0_size_0 rfl rfl ?_
  refine z_getR (pc := 1) (q2 := b + 8) (zo_Claims hb) rfl inT0 (i := 1) (by decide) wf_X0_15 rfl (fun _ _ => rfl) dX0_size_1 ?_
  refine z_iload_n (pc := 4) (n := 1) dX0_size_4 rfl rfl ?_
  obtain ⟨c1, c2, Q⟩ := Q
  refine z_iald (pc := 5) (za_sizes hb) c1 c2 dX0_size_5 ?_
  exact z_iret (pc := 6) rfl dX0_size_6 Q
theorem c_X0_size {h : zH} {b : Nat} {a1 : Int} (hb : zSt b) (c1 : 0 ≤ a1 ∧ a1 ≤ 5) : zSp 1 mX0_size [zR (b + 6), zI a1] h (fun r h' => r = some (zI (h (b + 8) a1.toNat)) ∧ h = h') := by
  refine zSp_of (by decide +kernel) (Nat.le_of_ble_eq_true rfl) rfl (fun Γ => k_X0_size_0 hb (Nat.le_refl _) ?_)
  exact ⟨by omega, by omega, rfl, rfl⟩
set_option maxHeartbeats 4000000 in
set_option maxRecDepth 100000 in
theorem k_X0_first_0 {d : Nat} {Post : Option zA → zH → Prop} {Γ : zCx} {h : zH} {b : Nat} {a1 : Int} (hb : zSt b) (hd : 1 ≤ d) (Q :
 0 ≤ a1 ∧ a1 < 6 ∧
 ((¬ (h (b + 8) a1.toNat) = 0 →
  0 ≤ (zwr (a1 * 6)) ∧ (zwr (a1 * 6)) < 36 ∧
  Post (some (zI (h (b + 7) (zwr (a1 * 6)).toNat))) h) ∧
 ((h (b + 8) a1.toNat) = 0 →
  Post (some (zI (-5))) h))) :
    zV RX0 cX0_first 2 (some .int) d Post Γ 0 [(0, zR (b + 6)), (1, zI a1)] [] h := by
  refine z_aload_n (pc := 0) (n := 0) dX0_first_0 rfl rfl ?_
  refine z_getR (pc := 1) (q2 := b + 8) (zo_Claims hb) rfl inT0 (i := 1) (by decide) wf_X0_15 rfl (fun _ _ => rfl) dX0_first_1 ?_
  refine z_iload_n (pc := 4) (n := 1) dX0_first_4 rfl rfl ?_
  obtain ⟨c1, c2, Q⟩ := Q
  refine z_iald (pc := 5) (za_sizes hb) c1 c2 dX0_first_5 ?_
  refine z_if_ne (pc := 6) (tgt := 14) dX0_first_6 (by decide) (fun c => ?_) (fun c => ?_)
  · replace Q := Q.1 c
    refine z_aload_n (pc := 14) (n := 0) dX0_first_14 rfl rfl ?_
    refine z_getR (pc := 15) (q2 := b + 7) (zo_Claims hb) rfl inT0 (i := 0) (by decide) wf_X0_9 rfl (fun _ _ => rfl) dX0_first_15 ?_
    refine z_iload_n (pc := 18) (n := 1) dX0_first_18 rfl rfl ?_
    refine z_bipush (pc := 19) (a := 6) dX0_first_19 rfl ?_
    refine z_imul (pc := 21) dX0_first_21 ?_
    obtain ⟨c3, c4, Q⟩ := Q
    refine z_iald (pc := 22) (za_agents hb) c3 c4 dX0_first_22 ?_
    exact z_iret (pc := 23) rfl dX0_first_23 Q
  · replace Q := Q.2 c
    refine z_bipush (pc := 9) (a := -5) dX0_first_9 rfl ?_
    refine z_goto (pc := 11) (tgt := 23) dX0_first_11 (by decide) ?_
    exact z_iret (pc := 23) rfl dX0_first_23 Q
theorem c_X0_first {h : zH} {b : Nat} {a1 : Int} (hb : zSt b) (c1 : 0 ≤ a1 ∧ a1 ≤ 5) : zSp 1 mX0_first [zR (b + 6), zI a1] h (fun r h' => r = some (zI (if h (b + 8) a1.toNat = 0 then -5 else h (b + 7) (6 * a1).toNat)) ∧ h = h') := by
  refine zSp_of (by decide +kernel) (Nat.le_of_ble_eq_true rfl) rfl (fun Γ => k_X0_first_0 hb (Nat.le_refl _) ?_)
  rw [show zwr (a1 * 6) = 6 * a1 by simp (disch := omega) only [zwr_eq]; omega]
  refine ⟨by omega, by omega, fun c => ⟨by omega, by omega, ?_, rfl⟩, fun c => ⟨?_, rfl⟩⟩
  · rw [if_neg c]
  · rw [if_pos c]
set_option maxHeartbeats 4000000 in
set_option maxRecDepth 100000 in
theorem k_X2_size_0 {d : Nat} {Post : Option zA → zH → Prop} {Γ : zCx} {h : zH}   (hd : 1 ≤ d) (Q :
 Post (some (zI (h 46 2))) h) :
    zV RX2 cX2_size 1 (some .int) d Post Γ 0 [(0, zR 46)] [] h := by
  refine z_aload_n (pc := 0) (n := 0) dX2_size_0 rfl rfl ?_
  refine z_getI (pc := 1) zo_History rfl inT2 (i := 2) (by decide) wf_X2_18 rfl (fun _ _ => rfl) dX2_size_1 ?_
  exact z_iret (pc := 4) rfl dX2_size_4 Q
theorem c_X2_size {h : zH} : zSp 1 mX2_size [zR 46] h (fun r h' => r = some (zI (h 46 2)) ∧ h = h') := by
  refine zSp_of (by decide +kernel) (Nat.le_of_ble_eq_true rfl) rfl (fun Γ => k_X2_size_0 (Nat.le_refl _) ?_)
  exact ⟨rfl, rfl⟩
set_option maxHeartbeats 4000000 in
set_option maxRecDepth 100000 in
theorem k_X5_size_0 {d : Nat} {Post : Option zA → zH → Prop} {Γ : zCx} {h : zH}   (hd : 1 ≤ d) (Q :
 Post (some (zI (h 125 1))) h) :
    zV RX5 cX5_size 1 (some .int) d Post Γ 0 [(0, zR 125)] [] h := by
  refine z_aload_n (pc := 0) (n := 0) dX5_size_0 rfl rfl ?_
  refine z_getI (pc := 1) zo_Text rfl inT5 (i := 1) (by decide) wf_X5_18 rfl (fun _ _ => rfl) dX5_size_1 ?_
  exact z_iret (pc := 4) rfl dX5_size_4 Q
theorem c_X5_size {h : zH} : zSp 1 mX5_size [zR 125] h (fun r h' => r = some (zI (h 125 1)) ∧ h = h') := by
  refine zSp_of (by decide +kernel) (Nat.le_of_ble_eq_true rfl) rfl (fun Γ => k_X5_size_0 (Nat.le_refl _) ?_)
  exact ⟨rfl, rfl⟩
set_option maxHeartbeats 4000000 in
set_option maxRecDepth 100000 in
theorem k_L_low_0 {d : Nat} {Post : Option zA → zH → Prop} {Γ : zCx} {h : zH} {a1 : Int} {a2 : Int}  (hd : 1 ≤ d) (Q :
 a2 ≠ 0 ∧
 Post (some (zI (zrem (zand a1 2147483647) a2))) h) :
    zV RL cL_low 2 (some .int) d Post Γ 0 [(0, zI a1), (1, zI a2)] [] h := by
  refine z_iload_n (pc := 0) (n := 0) dL_low_0 rfl rfl ?_
  refine z_ldc (pc := 1) (a := 2147483647) wc_L_7 dL_low_1 rfl ?_
  refine z_iand (pc := 3) dL_low_3 ?_
  refine z_iload_n (pc := 4) (n := 1) dL_low_4 rfl rfl ?_
  obtain ⟨c1, Q⟩ := Q
  refine z_irem (pc := 5) dL_low_5 c1 ?_
  exact z_iret (pc := 6) rfl dL_low_6 Q
theorem c_L_low {h : zH} {a1 a2 : Int} (c1 : 1 ≤ a2) : zSp 1 mL_low [zI a1, zI a2] h (fun r h' => r = some (zI (zlow a1 a2)) ∧ h = h') := by
  refine zSp_of (by decide +kernel) (Nat.le_of_ble_eq_true rfl) rfl (fun Γ => k_L_low_0 (Nat.le_refl _) ?_)
  exact ⟨by omega, rfl, rfl⟩
