/-! walks of methods, from cut to cut (printed by wip/gen/genk.py) -/
set_option maxHeartbeats 4000000 in
set_option maxRecDepth 100000 in
theorem k_J6_bitCount_0f7a4_0 {d : Nat} {Post : Option zA → zH → Prop} {Γ : zCx} {h : zH} {a1 : Int}  (hd : 1 ≤ d) (Q :
 ∀ x1 : Int, x1 = (zwr (a1 - (zand (zushr a1 1) 1431655765))) →
 ∀ x2 : Int, x2 = (zwr ((zand x1 858993459) + (zand (zushr x1 2) 858993459))) →
 ∀ x3 : Int, x3 = (zand (zwr (x2 + (zushr x2 4))) 252645135) →
 ∀ x4 : Int, x4 = (zwr (x3 + (zushr x3 8))) →
 ∀ x5 : Int, x5 = (zwr (x4 + (zushr x4 16))) →
 Post (some (zI (zand x5 63))) h) :
    zV RJ6 cJ6_bitCount_0f7a4 1 (some .int) d Post Γ 0 [(0, zI a1)] [] h := by
  refine z_iload_n (pc := 0) (n := 0) dJ6_bitCount_0f7a4_0 rfl rfl ?_
  refine z_iload_n (pc := 1) (n := 0) dJ6_bitCount_0f7a4_1 rfl rfl ?_
  refine z_iconst (pc := 2) (a := 1) dJ6_bitCount_0f7a4_2 rfl ?_
  refine z_iushr (pc := 3) dJ6_bitCount_0f7a4_3 ?_
  refine z_ldcw (pc := 4) (a := 1431655765) wc_J6_265 dJ6_bitCount_0f7a4_4 rfl ?_
  refine z_iand (pc := 7) dJ6_bitCount_0f7a4_7 ?_
  refine z_isub (pc := 8) dJ6_bitCount_0f7a4_8 ?_
  refine z_top (fun x1 ex1 => ?_)
  replace Q := Q x1 ex1
  refine z_istore_n (pc := 9) (ls' := [(0, _)]) dJ6_bitCount_0f7a4_9 rfl (by decide) rfl ?_
  refine z_iload_n (pc := 10) (n := 0) dJ6_bitCount_0f7a4_10 rfl rfl ?_
  refine z_ldcw (pc := 11) (a := 858993459) wc_J6_266 dJ6_bitCount_0f7a4_11 rfl ?_
  refine z_iand (pc := 14) dJ6_bitCount_0f7a4_14 ?_
  refine z_iload_n (pc := 15) (n := 0) dJ6_bitCount_0f7a4_15 rfl rfl ?_
  refine z_iconst (pc := 16) (a := 2) dJ6_bitCount_0f7a4_16 rfl ?_
  refine z_iushr (pc := 17) dJ6_bitCount_0f7a4_17 ?_
  refine z_ldcw (pc := 18) (a := 858993459) wc_J6_266 dJ6_bitCount_0f7a4_18 rfl ?_
  refine z_iand (pc := 21) dJ6_bitCount_0f7a4_21 ?_
  refine z_iadd (pc := 22) dJ6_bitCount_0f7a4_22 ?_
  refine z_top (fun x2 ex2 => ?_)
  replace Q := Q x2 ex2
  refine z_istore_n (pc := 23) (ls' := [(0, _)]) dJ6_bitCount_0f7a4_23 rfl (by decide) rfl ?_
  refine z_iload_n (pc := 24) (n := 0) dJ6_bitCount_0f7a4_24 rfl rfl ?_
  refine z_iload_n (pc := 25) (n := 0) dJ6_bitCount_0f7a4_25 rfl rfl ?_
  refine z_iconst (pc := 26) (a := 4) dJ6_bitCount_0f7a4_26 rfl ?_
  refine z_iushr (pc := 27) dJ6_bitCount_0f7a4_27 ?_
  refine z_iadd (pc := 28) dJ6_bitCount_0f7a4_28 ?_
  refine z_ldcw (pc := 29) (a := 252645135) wc_J6_267 dJ6_bitCount_0f7a4_29 rfl ?_
  refine z_iand (pc := 32) dJ6_bitCount_0f7a4_32 ?_
  refine z_top (fun x3 ex3 => ?_)
  replace Q := Q x3 ex3
  refine z_istore_n (pc := 33) (ls' := [(0, _)]) dJ6_bitCount_0f7a4_33 rfl (by decide) rfl ?_
  refine z_iload_n (pc := 34) (n := 0) dJ6_bitCount_0f7a4_34 rfl rfl ?_
  refine z_iload_n (pc := 35) (n := 0) dJ6_bitCount_0f7a4_35 rfl rfl ?_
  refine z_bipush (pc := 36) (a := 8) dJ6_bitCount_0f7a4_36 rfl ?_
  refine z_iushr (pc := 38) dJ6_bitCount_0f7a4_38 ?_
  refine z_iadd (pc := 39) dJ6_bitCount_0f7a4_39 ?_
  refine z_top (fun x4 ex4 => ?_)
  replace Q := Q x4 ex4
  refine z_istore_n (pc := 40) (ls' := [(0, _)]) dJ6_bitCount_0f7a4_40 rfl (by decide) rfl ?_
  refine z_iload_n (pc := 41) (n := 0) dJ6_bitCount_0f7a4_41 rfl rfl ?_
  refine z_iload_n (pc := 42) (n := 0) dJ6_bitCount_0f7a4_42 rfl rfl ?_
  refine z_bipush (pc := 43) (a := 16) dJ6_bitCount_0f7a4_43 rfl ?_
  refine z_iushr (pc := 45) dJ6_bitCount_0f7a4_45 ?_
  refine z_iadd (pc := 46) dJ6_bitCount_0f7a4_46 ?_
  refine z_top (fun x5 ex5 => ?_)
  replace Q := Q x5 ex5
  refine z_istore_n (pc := 47) (ls' := [(0, _)]) dJ6_bitCount_0f7a4_47 rfl (by decide) rfl ?_
  refine z_iload_n (pc := 48) (n := 0) dJ6_bitCount_0f7a4_48 rfl rfl ?_
  refine z_bipush (pc := 49) (a := 63) dJ6_bitCount_0f7a4_49 rfl ?_
  refine z_iand (pc := 51) dJ6_bitCount_0f7a4_51 ?_
  exact z_iret (pc := 52) rfl dJ6_bitCount_0f7a4_52 Q
set_option maxHeartbeats 4000000 in
set_option maxRecDepth 100000 in
theorem k_J7_fill_53178_0 {d : Nat} {Post : Option zA → zH → Prop} {Γ : zCx} {h : zH} {n1 : Nat} {q1 : Nat} {a2 : Int} (hq1 : zArI q1 n1) (hd : 1 ≤ d) (Q :
 zV RJ7 cJ7_fill_53178 4 none d Post Γ 5 [(0, zR q1), (1, zI a2), (2, zI 0), (3, zI (n1 : Int))] [] h) :
    zV RJ7 cJ7_fill_53178 4 none d Post Γ 0 [(0, zR q1), (1, zI a2)] [] h := by
  refine z_iconst (pc := 0) (a := 0) dJ7_fill_53178_0 rfl ?_
  refine z_istore_n (pc := 1) (ls' := [(2, _), (0, _), (1, _)]) dJ7_fill_53178_1 rfl (by decide) rfl ?_
  refine z_aload_n (pc := 2) (n := 1) dJ7_fill_53178_2 rfl rfl ?_
  refine z_alen (pc := 3) hq1 dJ7_fill_53178_3 ?_
  refine z_istore_n (pc := 4) (ls' := [(3, _), (2, _), (0, _), (1, _)]) dJ7_fill_53178_4 rfl (by decide) rfl ?_
  exact z_sub (ks := [2, 3, 1, 0]) rfl Q
set_option maxHeartbeats 4000000 in
set_option maxRecDepth 100000 in
theorem k_J7_fill_53178_5 {d : Nat} {Post : Option zA → zH → Prop} {Γ : zCx} {h : zH} {n1 : Nat} {q1 : Nat} {v1 : Int} {v2 : Int} {v3 : Int} (hq1 : zArI q1 n1) (hd : 1 ≤ d) (Q :
 ((v3 ≤ v2 →
  Post none h) ∧
 (¬ v3 ≤ v2 →
  0 ≤ v2 ∧ v2 < n1 ∧
  ∀ h3 : zH, h3 = zu h q1 v2.toNat v1 →
  ∀ x4 : Int, x4 = zwr (v2 + 1) →
  zV RJ7 cJ7_fill_53178 4 none d Post Γ 5 [(0, zR q1), (1, zI v1), (2, zI x4), (3, zI v3)] [] h3))) :
    zV RJ7 cJ7_fill_53178 4 none d Post Γ 5 [(0, zR q1), (1, zI v1), (2, zI v2), (3, zI v3)] [] h := by
  refine z_iload_n (pc := 5) (n := 2) dJ7_fill_53178_5 rfl rfl ?_
  refine z_iload_n (pc := 6) (n := 3) dJ7_fill_53178_6 rfl rfl ?_
  refine z_icmp_ge (pc := 7) (tgt := 20) dJ7_fill_53178_7 (by decide) (fun c => ?_) (fun c => ?_)
  · replace Q := Q.1 c
    exact z_vret (pc := 20) rfl dJ7_fill_53178_20 Q
  · replace Q := Q.2 c
    refine z_aload_n (pc := 10) (n := 0) dJ7_fill_53178_10 rfl rfl ?_
    refine z_iload_n (pc := 11) (n := 2) dJ7_fill_53178_11 rfl rfl ?_
    refine z_iload_n (pc := 12) (n := 1) dJ7_fill_53178_12 rfl rfl ?_
    obtain ⟨c1, c2, Q⟩ := Q
    refine z_iast (pc := 13) hq1 c1 c2 dJ7_fill_53178_13 ?_
    refine z_heap (fun h3 eh3 => ?_)
    replace Q := Q h3 eh3
    refine z_iincg (pc := 14) (n := 2) (lf := fun y => [(2, zI y), (0, _), (1, _), (3, _)]) dJ7_fill_53178_14 rfl (by decide) (fun _ => rfl) (fun x4 ex4 => ?_)
    replace Q := Q x4 ex4
    refine z_goto (pc := 17) (tgt := 5) dJ7_fill_53178_17 (by decide) ?_
    exact z_sub (ks := [1, 2, 0, 3]) rfl Q
set_option maxHeartbeats 4000000 in
set_option maxRecDepth 100000 in
theorem k_X0_append_0 {d : Nat} {Post : Option zA → zH → Prop} {Γ : zCx} {h : zH} {b : Nat} {a1 : Int} {a2 : Int} (hb : zSt b) (hd : 1 ≤ d) (Q :
 0 ≤ a2 ∧ a2 < 6 ∧
 0 ≤ (zwr ((zwr (a2 * 6)) + (h (b + 8) a2.toNat))) ∧ (zwr ((zwr (a2 * 6)) + (h (b + 8) a2.toNat))) < 36 ∧
 ∀ h5 : zH, h5 = zu h (b + 7) (zwr ((zwr (a2 * 6)) + (h (b + 8) a2.toNat))).toNat a1 →
 0 ≤ a2 ∧ a2 < 6 ∧
 0 ≤ a2 ∧ a2 < 6 ∧
 ∀ h10 : zH, h10 = zu h5 (b + 8) a2.toNat (zwr ((h5 (b + 8) a2.toNat) + 1)) →
 Post none h10) :
    zV RX0 cX0_append 3 none d Post Γ 0 [(0, zR (b + 6)), (1, zI a1), (2, zI a2)] [] h := by
  refine z_aload_n (pc := 0) (n := 0) dX0_append_0 rfl rfl ?_
  refine z_getR (pc := 1) (q2 := b + 7) (zo_Claims hb) rfl inT0 (i := 0) (by decide) wf_X0_9 rfl (fun _ _ => rfl) dX0_append_1 ?_
  refine z_iload_n (pc := 4) (n := 2) dX0_append_4 rfl rfl ?_
  refine z_bipush (pc := 5) (a := 6) dX0_append_5 rfl ?_
  refine z_imul (pc := 7) dX0_append_7 ?_
  refine z_aload_n (pc := 8) (n := 0) dX0_append_8 rfl rfl ?_
  refine z_getR (pc := 9) (q2 := b + 8) (zo_Claims hb) rfl inT0 (i := 1) (by decide) wf_X0_15 rfl (fun _ _ => rfl) dX0_append_9 ?_
  refine z_iload_n (pc := 12) (n := 2) dX0_append_12 rfl rfl ?_
  obtain ⟨c1, c2, Q⟩ := Q
  refine z_iald (pc := 13) (za_sizes hb) c1 c2 dX0_append_13 ?_
  refine z_iadd (pc := 14) dX0_append_14 ?_
  refine z_iload_n (pc := 15) (n := 1) dX0_append_15 rfl rfl ?_
  obtain ⟨c3, c4, Q⟩ := Q
  refine z_iast (pc := 16) (za_agents hb) c3 c4 dX0_append_16 ?_
  refine z_heap (fun h5 eh5 => ?_)
  replace Q := Q h5 eh5
  refine z_aload_n (pc := 17) (n := 0) dX0_append_17 rfl rfl ?_
  refine z_getR (pc := 18) (q2 := b + 8) (zo_Claims hb) rfl inT0 (i := 1) (by decide) wf_X0_15 rfl (fun _ _ => rfl) dX0_append_18 ?_
  refine z_iload_n (pc := 21) (n := 2) dX0_append_21 rfl rfl ?_
  refine z_dup2 (pc := 22) dX0_append_22 rfl rfl ?_
  obtain ⟨c6, c7, Q⟩ := Q
  refine z_iald (pc := 23) (za_sizes hb) c6 c7 dX0_append_23 ?_
  refine z_iconst (pc := 24) (a := 1) dX0_append_24 rfl ?_
  refine z_iadd (pc := 25) dX0_append_25 ?_
  obtain ⟨c8, c9, Q⟩ := Q
  refine z_iast (pc := 26) (za_sizes hb) c8 c9 dX0_append_26 ?_
  refine z_heap (fun h10 eh10 => ?_)
  replace Q := Q h10 eh10
  exact z_vret (pc := 27) rfl dX0_append_27 Q
set_option maxHeartbeats 4000000 in
set_option maxRecDepth 100000 in
theorem k_X0_copyFrom_0 {d : Nat} {Post : Option zA → zH → Prop} {Γ : zCx} {h : zH} {b : Nat} {b1 : Nat} (hb : zSt b) (hb1 : zSt b1) (hd : 1 ≤ d) (Q :
 ∀ h1 : zH, h1 = zcp h (b1 + 7) 0 (b + 7) 0 36 →
 ∀ h2 : zH, h2 = zcp h1 (b1 + 8) 0 (b + 8) 0 6 →
 Post none h2) :
    zV RX0 cX0_copyFrom 2 none d Post Γ 0 [(0, zR (b + 6)), (1, zR (b1 + 6))] [] h := by
  refine z_aload_n (pc := 0) (n := 1) dX0_copyFrom_0 rfl rfl ?_
  refine z_getR (pc := 1) (q2 := b1 + 7) (zo_Claims hb1) rfl inT0 (i := 0) (by decide) wf_X0_9 rfl (fun _ _ => rfl) dX0_copyFrom_1 ?_
  refine z_iconst (pc := 4) (a := 0) dX0_copyFrom_4 rfl ?_
  refine z_aload_n (pc := 5) (n := 0) dX0_copyFrom_5 rfl rfl ?_
  refine z_getR (pc := 6) (q2 := b + 7) (zo_Claims hb) rfl inT0 (i := 0) (by decide) wf_X0_9 rfl (fun _ _ => rfl) dX0_copyFrom_6 ?_
  refine z_iconst (pc := 9) (a := 0) dX0_copyFrom_9 rfl ?_
  refine z_bipush (pc := 10) (a := 36) dX0_copyFrom_10 rfl ?_
  refine z_copy (pc := 12) (za_agents hb1) (za_agents hb) wl_X0_18 wn_copy ws_copy wi_copy (by decide) (by decide) (by decide) (by decide) (by decide) (by omega) (by decide) dX0_copyFrom_12 ?_
  refine z_heap (fun h1 eh1 => ?_)
  replace Q := Q h1 eh1
  refine z_aload_n (pc := 15) (n := 1) dX0_copyFrom_15 rfl rfl ?_
  refine z_getR (pc := 16) (q2 := b1 + 8) (zo_Claims hb1) rfl inT0 (i := 1) (by decide) wf_X0_15 rfl (fun _ _ => rfl) dX0_copyFrom_16 ?_
  refine z_iconst (pc := 19) (a := 0) dX0_copyFrom_19 rfl ?_
  refine z_aload_n (pc := 20) (n := 0) dX0_copyFrom_20 rfl rfl ?_
  refine z_getR (pc := 21) (q2 := b + 8) (zo_Claims hb) rfl inT0 (i := 1) (by decide) wf_X0_15 rfl (fun _ _ => rfl) dX0_copyFrom_21 ?_
  refine z_iconst (pc := 24) (a := 0) dX0_copyFrom_24 rfl ?_
  refine z_bipush (pc := 25) (a := 6) dX0_copyFrom_25 rfl ?_
  refine z_copy (pc := 27) (za_sizes hb1) (za_sizes hb) wl_X0_18 wn_copy ws_copy wi_copy (by decide) (by decide) (by decide) (by decide) (by decide) (by omega) (by decide) dX0_copyFrom_27 ?_
  refine z_heap (fun h2 eh2 => ?_)
  replace Q := Q h2 eh2
  exact z_vret (pc := 30) rfl dX0_copyFrom_30 Q
set_option maxHeartbeats 4000000 in
set_option maxRecDepth 100000 in
theorem k_X0_placeOf_0 {d : Nat} {Post : Option zA → zH → Prop} {Γ : zCx} {h : zH} {b : Nat} {a1 : Int} {a2 : Int} (hb : zSt b) (hd : 1 ≤ d) (Q :
 zV RX0 cX0_placeOf 4 (some .int) d Post Γ 2 [(0, zR (b + 6)), (1, zI a1), (2, zI a2), (3, zI 0)] [] h) :
    zV RX0 cX0_placeOf 4 (some .int) d Post Γ 0 [(0, zR (b + 6)), (1, zI a1), (2, zI a2)] [] h := by
  refine z_iconst (pc := 0) (a := 0) dX0_placeOf_0 rfl ?_
  refine z_istore_n (pc := 1) (ls' := [(3, _), (0, _), (1, _), (2, _)]) dX0_placeOf_1 rfl (by decide) rfl ?_
  exact z_sub (ks := [1, 2, 3, 0]) rfl Q
set_option maxHeartbeats 4000000 in
set_option maxRecDepth 100000 in
theorem k_X0_placeOf_2 {d : Nat} {Post : Option zA → zH → Prop} {Γ : zCx} {h : zH} {b : Nat} {v1 : Int} {v2 : Int} {v3 : Int} (hb : zSt b) (hd : 1 ≤ d) (Q :
 0 ≤ v2 ∧ v2 < 6 ∧
 (((h (b + 8) v2.toNat) ≤ v3 →
  Post (some (zI (-5))) h) ∧
 (¬ (h (b + 8) v2.toNat) ≤ v3 →
  0 ≤ (zwr ((zwr (v2 * 6)) + v3)) ∧ (zwr ((zwr (v2 * 6)) + v3)) < 36 ∧
  ((¬ (h (b + 7) (zwr ((zwr (v2 * 6)) + v3)).toNat) = v1 →
   ∀ x5 : Int, x5 = zwr (v3 + 1) →
   zV RX0 cX0_placeOf 4 (some .int) d Post Γ 2 [(0, zR (b + 6)), (1, zI v1), (2, zI v2), (3, zI x5)] [] h) ∧
  ((h (b + 7) (zwr ((zwr (v2 * 6)) + v3)).toNat) = v1 →
   Post (some (zI v3)) h))))) :
    zV RX0 cX0_placeOf 4 (some .int) d Post Γ 2 [(0, zR (b + 6)), (1, zI v1), (2, zI v2), (3, zI v3)] [] h := by
  refine z_iload_n (pc := 2) (n := 3) dX0_placeOf_2 rfl rfl ?_
  refine z_aload_n (pc := 3) (n := 0) dX0_placeOf_3 rfl rfl ?_
  refine z_getR (pc := 4) (q2 := b + 8) (zo_Claims hb) rfl inT0 (i := 1) (by decide) wf_X0_15 rfl (fun _ _ => rfl) dX0_placeOf_4 ?_
  refine z_iload_n (pc := 7) (n := 2) dX0_placeOf_7 rfl rfl ?_
  obtain ⟨c1, c2, Q⟩ := Q
  refine z_iald (pc := 8) (za_sizes hb) c1 c2 dX0_placeOf_8 ?_
  refine z_icmp_ge (pc := 9) (tgt := 35) dX0_placeOf_9 (by decide) (fun c => ?_) (fun c => ?_)
  · replace Q := Q.1 c
    refine z_bipush (pc := 35) (a := -5) dX0_placeOf_35 rfl ?_
    exact z_iret (pc := 37) rfl dX0_placeOf_37 Q
  · replace Q := Q.2 c
    refine z_aload_n (pc := 12) (n := 0) dX0_placeOf_12 rfl rfl ?_
    refine z_getR (pc := 13) (q2 := b + 7) (zo_Claims hb) rfl inT0 (i := 0) (by decide) wf_X0_9 rfl (fun _ _ => rfl) dX0_placeOf_13 ?_
    refine z_iload_n (pc := 16) (n := 2) dX0_placeOf_16 rfl rfl ?_
    refine z_bipush (pc := 17) (a := 6) dX0_placeOf_17 rfl ?_
    refine z_imul (pc := 19) dX0_placeOf_19 ?_
    refine z_iload_n (pc := 20) (n := 3) dX0_placeOf_20 rfl rfl ?_
    refine z_iadd (pc := 21) dX0_placeOf_21 ?_
    obtain ⟨c3, c4, Q⟩ := Q
    refine z_iald (pc := 22) (za_agents hb) c3 c4 dX0_placeOf_22 ?_
    refine z_iload_n (pc := 23) (n := 1) dX0_placeOf_23 rfl rfl ?_
    refine z_icmp_ne (pc := 24) (tgt := 29) dX0_placeOf_24 (by decide) (fun c => ?_) (fun c => ?_)
    · replace Q := Q.1 c
      refine z_iincg (pc := 29) (n := 3) (lf := fun y => [(3, zI y), (0, _), (1, _), (2, _)]) dX0_placeOf_29 rfl (by decide) (fun _ => rfl) (fun x5 ex5 => ?_)
      replace Q := Q x5 ex5
      refine z_goto (pc := 32) (tgt := 2) dX0_placeOf_32 (by decide) ?_
      exact z_sub (ks := [1, 2, 3, 0]) rfl Q
    · replace Q := Q.2 c
      refine z_iload_n (pc := 27) (n := 3) dX0_placeOf_27 rfl rfl ?_
      exact z_iret (pc := 28) rfl dX0_placeOf_28 Q
set_option maxHeartbeats 4000000 in
set_option maxRecDepth 100000 in
theorem k_X0_remove_0 {d : Nat} {Post : Option zA → zH → Prop} {Γ : zCx} {h : zH} {b : Nat} {a1 : Int} {a2 : Int} (hb : zSt b) (hd : 1 ≤ d) (Q :
 ∀ x1 : Int, x1 = (zwr (a1 * 6)) →
 0 ≤ a1 ∧ a1 < 6 ∧
 0 ≤ a1 ∧ a1 < 6 ∧
 ∀ h6 : zH, h6 = zu h (b + 8) a1.toNat (zwr ((h (b + 8) a1.toNat) - 1)) →
 zV RX0 cX0_remove 5 none d Post Γ 18 [(0, zR (b + 6)), (1, zI a1), (2, zI a2), (3, zI x1), (4, zI a2)] [] h6) :
    zV RX0 cX0_remove 5 none d Post Γ 0 [(0, zR (b + 6)), (1, zI a1), (2, zI a2)] [] h := by
  refine z_iload_n (pc := 0) (n := 1) dX0_remove_0 rfl rfl ?_
  refine z_bipush (pc := 1) (a := 6) dX0_remove_1 rfl ?_
  refine z_imul (pc := 3) dX0_remove_3 ?_
  refine z_top (fun x1 ex1 => ?_)
  replace Q := Q x1 ex1
  refine z_istore_n (pc := 4) (ls' := [(3, _), (0, _), (1, _), (2, _)]) dX0_remove_4 rfl (by decide) rfl ?_
  refine z_aload_n (pc := 5) (n := 1) dX0_remove_5 rfl rfl ?_
  refine z_getR (pc := 6) (q2 := b + 8) (zo_Claims hb) rfl inT0 (i := 1) (by decide) wf_X0_15 rfl (fun _ _ => rfl) dX0_remove_6 ?_
  refine z_iload_n (pc := 9) (n := 2) dX0_remove_9 rfl rfl ?_
  refine z_dup2 (pc := 10) dX0_remove_10 rfl rfl ?_
  obtain ⟨c2, c3, Q⟩ := Q
  refine z_iald (pc := 11) (za_sizes hb) c2 c3 dX0_remove_11 ?_
  refine z_iconst (pc := 12) (a := 1) dX0_remove_12 rfl ?_
  refine z_isub (pc := 13) dX0_remove_13 ?_
  obtain ⟨c4, c5, Q⟩ := Q
  refine z_iast (pc := 14) (za_sizes hb) c4 c5 dX0_remove_14 ?_
  refine z_heap (fun h6 eh6 => ?_)
  replace Q := Q h6 eh6
  refine z_iload_n (pc := 15) (n := 3) dX0_remove_15 rfl rfl ?_
  refine z_istore (pc := 16) (ls' := [(4, _), (3, _), (0, _), (1, _), (2, _)]) dX0_remove_16 (by decide) rfl ?_
  exact z_sub (ks := [2, 3, 4, 1, 0]) rfl Q
set_option maxHeartbeats 4000000 in
set_option maxRecDepth 100000 in
theorem k_X0_remove_18 {d : Nat} {Post : Option zA → zH → Prop} {Γ : zCx} {h : zH} {b : Nat} {v1 : Int} {v2 : Int} {v3 : Int} {v4 : Int} (hb : zSt b) (hd : 1 ≤ d) (Q :
 0 ≤ v1 ∧ v1 < 6 ∧
 (((h (b + 8) v1.toNat) ≤ v4 →
  Post none h) ∧
 (¬ (h (b + 8) v1.toNat) ≤ v4 →
  0 ≤ (zwr ((zwr (v3 + v4)) + 1)) ∧ (zwr ((zwr (v3 + v4)) + 1)) < 36 ∧
  0 ≤ (zwr (v3 + v4)) ∧ (zwr (v3 + v4)) < 36 ∧
  ∀ h7 : zH, h7 = zu h (b + 7) (zwr (v3 + v4)).toNat (h (b + 7) (zwr ((zwr (v3 + v4)) + 1)).toNat) →
  ∀ x8 : Int, x8 = zwr (v4 + 1) →
  zV RX0 cX0_remove 5 none d Post Γ 18 [(0, zR (b + 6)), (1, zI v1), (2, zI v2), (3, zI v3), (4, zI x8)] [] h7))) :
    zV RX0 cX0_remove 5 none d Post Γ 18 [(0, zR (b + 6)), (1, zI v1), (2, zI v2), (3, zI v3), (4, zI v4)] [] h := by
  refine z_iload (pc := 18) (n := 4) dX0_remove_18 rfl ?_
  refine z_aload_n (pc := 20) (n := 0) dX0_remove_20 rfl rfl ?_
  refine z_getR (pc := 21) (q2 := b + 8) (zo_Claims hb) rfl inT0 (i := 1) (by decide) wf_X0_15 rfl (fun _ _ => rfl) dX0_remove_21 ?_
  refine z_iload_n (pc := 24) (n := 1) dX0_remove_24 rfl rfl ?_
  obtain ⟨c1, c2, Q⟩ := Q
  refine z_iald (pc := 25) (za_sizes hb) c1 c2 dX0_remove_25 ?_
  refine z_icmp_ge (pc := 26) (tgt := 55) dX0_remove_26 (by decide) (fun c => ?_) (fun c => ?_)
  · replace Q := Q.1 c
    exact z_vret (pc := 55) rfl dX0_remove_55 Q
  · replace Q := Q.2 c
    refine z_aload_n (pc := 29) (n := 0) dX0_remove_29 rfl rfl ?_
    refine z_getR (pc := 30) (q2 := b + 7) (zo_Claims hb) rfl inT0 (i := 0) (by decide) wf_X0_9 rfl (fun _ _ => rfl) dX0_remove_30 ?_
    refine z_iload_n (pc := 33) (n := 3) dX0_remove_33 rfl rfl ?_
    refine z_iload (pc := 34) (n := 4) dX0_remove_34 rfl ?_
    refine z_iadd (pc := 36) dX0_remove_36 ?_
    refine z_aload_n (pc := 37) (n := 0) dX0_remove_37 rfl rfl ?_
    refine z_getR (pc := 38) (q2 := b + 7) (zo_Claims hb) rfl inT0 (i := 0) (by decide) wf_X0_9 rfl (fun _ _ => rfl) dX0_remove_38 ?_
    refine z_iload_n (pc := 41) (n := 3) dX0_remove_41 rfl rfl ?_
    refine z_iload (pc := 42) (n := 4) dX0_remove_42 rfl ?_
    refine z_iadd (pc := 44) dX0_remove_44 ?_
    refine z_iconst (pc := 45) (a := 1) dX0_remove_45 rfl ?_
    refine z_iadd (pc := 46) dX0_remove_46 ?_
    obtain ⟨c3, c4, Q⟩ := Q
    refine z_iald (pc := 47) (za_agents hb) c3 c4 dX0_remove_47 ?_
    obtain ⟨c5, c6, Q⟩ := Q
    refine z_iast (pc := 48) (za_agents hb) c5 c6 dX0_remove_48 ?_
    refine z_heap (fun h7 eh7 => ?_)
    replace Q := Q h7 eh7
    refine z_iincg (pc := 49) (n := 4) (lf := fun y => [(4, zI y), (0, _), (1, _), (2, _), (3, _)]) dX0_remove_49 rfl (by decide) (fun _ => rfl) (fun x8 ex8 => ?_)
    replace Q := Q x8 ex8
    refine z_goto (pc := 52) (tgt := 18) dX0_remove_52 (by decide) ?_
    exact z_sub (ks := [1, 2, 3, 4, 0]) rfl Q
set_option maxHeartbeats 4000000 in
set_option maxRecDepth 100000 in
theorem k_X0_sizeOfAll_0 {d : Nat} {Post : Option zA → zH → Prop} {Γ : zCx} {h : zH} {b : Nat} (hb : zSt b) (hd : 1 ≤ d) (Q :
 zV RX0 cX0_sizeOfAll 3 (some .int) d Post Γ 4 [(0, zR (b + 6)), (1, zI 0), (2, zI 0)] [] h) :
    zV RX0 cX0_sizeOfAll 3 (some .int) d Post Γ 0 [(0, zR (b + 6))] [] h := by
  refine z_iconst (pc := 0) (a := 0) dX0_sizeOfAll_0 rfl ?_
  refine z_istore_n (pc := 1) (ls' := [(1, _), (0, _)]) dX0_sizeOfAll_1 rfl (by decide) rfl ?_
  refine z_iconst (pc := 2) (a := 0) dX0_sizeOfAll_2 rfl ?_
  refine z_istore_n (pc := 3) (ls' := [(2, _), (1, _), (0, _)]) dX0_sizeOfAll_3 rfl (by decide) rfl ?_
  exact z_sub (ks := [2, 1, 0]) rfl Q
set_option maxHeartbeats 4000000 in
set_option maxRecDepth 100000 in
theorem k_X0_sizeOfAll_4 {d : Nat} {Post : Option zA → zH → Prop} {Γ : zCx} {h : zH} {b : Nat} {v1 : Int} {v2 : Int} (hb : zSt b) (hd : 1 ≤ d) (Q :
 ((6 ≤ v2 →
  Post (some (zI v1)) h) ∧
 (¬ 6 ≤ v2 →
  0 ≤ v2 ∧ v2 < 6 ∧
  ∀ x3 : Int, x3 = (zwr (v1 + (h (b + 8) v2.toNat))) →
  ∀ x4 : Int, x4 = zwr (v2 + 1) →
  zV RX0 cX0_sizeOfAll 3 (some .int) d Post Γ 4 [(0, zR (b + 6)), (1, zI x3), (2, zI x4)] [] h))) :
    zV RX0 cX0_sizeOfAll 3 (some .int) d Post Γ 4 [(0, zR (b + 6)), (1, zI v1), (2, zI v2)] [] h := by
  refine z_iload_n (pc := 4) (n := 2) dX0_sizeOfAll_4 rfl rfl ?_
  refine z_bipush (pc := 5) (a := 6) dX0_sizeOfAll_5 rfl ?_
  refine z_icmp_ge (pc := 7) (tgt := 25) dX0_sizeOfAll_7 (by decide) (fun c => ?_) (fun c => ?_)
  · replace Q := Q.1 c
    refine z_iload_n (pc := 25) (n := 1) dX0_sizeOfAll_25 rfl rfl ?_
    exact z_iret (pc := 26) rfl dX0_sizeOfAll_26 Q
  · replace Q := Q.2 c
    refine z_iload_n (pc := 10) (n := 1) dX0_sizeOfAll_10 rfl rfl ?_
    refine z_aload_n (pc := 11) (n := 0) dX0_sizeOfAll_11 rfl rfl ?_
    refine z_getR (pc := 12) (q2 := b + 8) (zo_Claims hb) rfl inT0 (i := 1) (by decide) wf_X0_15 rfl (fun _ _ => rfl) dX0_sizeOfAll_12 ?_
    refine z_iload_n (pc := 15) (n := 2) dX0_sizeOfAll_15 rfl rfl ?_
    obtain ⟨c1, c2, Q⟩ := Q
    refine z_iald (pc := 16) (za_sizes hb) c1 c2 dX0_sizeOfAll_16 ?_
    refine z_iadd (pc := 17) dX0_sizeOfAll_17 ?_
    refine z_top (fun x3 ex3 => ?_)
    replace Q := Q x3 ex3
    refine z_istore_n (pc := 18) (ls' := [(1, _), (0, _), (2, _)]) dX0_sizeOfAll_18 rfl (by decide) rfl ?_
    refine z_iincg (pc := 19) (n := 2) (lf := fun y => [(2, zI y), (1, _), (0, _)]) dX0_sizeOfAll_19 rfl (by decide) (fun _ => rfl) (fun x4 ex4 => ?_)
    replace Q := Q x4 ex4
    refine z_goto (pc := 22) (tgt := 4) dX0_sizeOfAll_22 (by decide) ?_
    exact z_sub (ks := [2, 1, 0]) rfl Q
set_option maxHeartbeats 4000000 in
set_option maxRecDepth 100000 in
theorem k_X1_gatherFor_0 {d : Nat} {Post : Option zA → zH → Prop} {Γ : zCx} {h : zH} {b1 : Nat} {a3 : Int} {a4 : Int} {a5 : Int} {a6 : Int} (hb1 : zSt b1) (hd : 1 ≤ d) (Q :
 ∀ x1 : Int, x1 = (h (b1 + 9) 7) →
 ∀ x2 : Int, x2 = (zwr ((zwr (a5 * 6)) + a3)) →
 ∀ x3 : Int, x3 = (zor a5 (zshl 1 a3)) →
 ((6 ≤ a6 →
  Post none h) ∧
 (¬ 6 ≤ a6 →
  0 ≤ x2 ∧ x2 < 384 ∧
  ((¬ (h 124 x2.toNat) = x1 →
   ∃ (d6 : Nat) (P7 : Option zA → zH → Prop), d6 + 1 ≤ d ∧ zSp d6 mX3_latestAhead [zR (b1 + 9), zI 1000, zI a3, zI a4] h P7 ∧ ∀ r8 h9, P7 r8 h9 →
   ∃ x12 : Int, r8 = some (zI x12) ∧
   zV RX1 cX1_gatherFor 13 none d Post Γ 62 [(0, zR b1), (1, zR 124), (2, zI a3), (3, zI a4), (4, zI a5), (5, zI a6), (6, zR (b1 + 9)), (7, zI x1), (8, zI x2), (9, zI x3), (10, zI x12), (11, zI 0)] [] h9) ∧
  ((h 124 x2.toNat) = x1 →
   Post none h))))) :
    zV RX1 cX1_gatherFor 13 none d Post Γ 0 [(0, zR b1), (1, zR 124), (2, zI a3), (3, zI a4), (4, zI a5), (5, zI a6)] [] h := by
  refine z_aload_n (pc := 0) (n := 0) dX1_gatherFor_0 rfl rfl ?_
  refine z_getR (pc := 1) (q2 := b1 + 9) (zo_State hb1) rfl inT4 (i := 6) (by decide) wf_X1_21 rfl (fun _ _ => rfl) dX1_gatherFor_1 ?_
  refine z_astore (pc := 4) (ls' := [(6, _), (0, _), (1, _), (2, _), (3, _), (4, _), (5, _)]) dX1_gatherFor_4 (by decide) rfl ?_
  refine z_aload (pc := 6) (n := 0) dX1_gatherFor_6 rfl ?_
  refine z_getI (pc := 8) (zo_Loans hb1) rfl inT3 (i := 7) (by decide) wf_X1_27 rfl (fun _ _ => rfl) dX1_gatherFor_8 ?_
  refine z_top (fun x1 ex1 => ?_)
  replace Q := Q x1 ex1
  refine z_istore (pc := 11) (ls' := [(7, _), (6, _), (0, _), (1, _), (2, _), (3, _), (4, _), (5, _)]) dX1_gatherFor_11 (by decide) rfl ?_
  refine z_iload (pc := 13) (n := 6) dX1_gatherFor_13 rfl ?_
  refine z_bipush (pc := 15) (a := 6) dX1_gatherFor_15 rfl ?_
  refine z_imul (pc := 17) dX1_gatherFor_17 ?_
  refine z_iload_n (pc := 18) (n := 4) dX1_gatherFor_18 rfl rfl ?_
  refine z_iadd (pc := 19) dX1_gatherFor_19 ?_
  refine z_top (fun x2 ex2 => ?_)
  replace Q := Q x2 ex2
  refine z_istore (pc := 20) (ls' := [(8, _), (7, _), (6, _), (0, _), (1, _), (2, _), (3, _), (4, _), (5, _)]) dX1_gatherFor_20 (by decide) rfl ?_
  refine z_iload (pc := 22) (n := 7) dX1_gatherFor_22 rfl ?_
  refine z_iconst (pc := 24) (a := 1) dX1_gatherFor_24 rfl ?_
  refine z_iload_n (pc := 25) (n := 5) dX1_gatherFor_25 rfl rfl ?_
  refine z_ishl (pc := 26) dX1_gatherFor_26 ?_
  refine z_ior (pc := 27) dX1_gatherFor_27 ?_
  refine z_top (fun x3 ex3 => ?_)
  replace Q := Q x3 ex3
  refine z_istore (pc := 28) (ls' := [(9, _), (8, _), (7, _), (6, _), (0, _), (1, _), (2, _), (3, _), (4, _), (5, _)]) dX1_gatherFor_28 (by decide) rfl ?_
  refine z_iload (pc := 30) (n := 9) dX1_gatherFor_30 rfl ?_
  refine z_bipush (pc := 32) (a := 6) dX1_gatherFor_32 rfl ?_
  refine z_icmp_ge (pc := 34) (tgt := 46) dX1_gatherFor_34 (by decide) (fun c => ?_) (fun c => ?_)
  · replace Q := Q.1 c
    exact z_vret (pc := 46) rfl dX1_gatherFor_46 Q
  · replace Q := Q.2 c
    refine z_aload_n (pc := 37) (n := 5) dX1_gatherFor_37 rfl rfl ?_
    refine z_iload (pc := 38) (n := 1) dX1_gatherFor_38 rfl ?_
    obtain ⟨c4, c5, Q⟩ := Q
    refine z_iald (pc := 40) za_idleAt c4 c5 dX1_gatherFor_40 ?_
    refine z_iload (pc := 41) (n := 2) dX1_gatherFor_41 rfl ?_
    refine z_icmp_ne (pc := 43) (tgt := 47) dX1_gatherFor_43 (by decide) (fun c => ?_) (fun c => ?_)
    · replace Q := Q.1 c
      refine z_aload (pc := 47) (n := 3) dX1_gatherFor_47 rfl ?_
      refine z_sipush (pc := 49) (a := 1000) dX1_gatherFor_49 rfl ?_
      refine z_iload_n (pc := 52) (n := 6) dX1_gatherFor_52 rfl rfl ?_
      refine z_iload_n (pc := 53) (n := 7) dX1_gatherFor_53 rfl rfl ?_
      obtain ⟨d6, P7, e10, s11, Q⟩ := Q
      refine z_callV (pc := 54) (M := mX3_latestAhead) (as := [_, _, _]) (st := []) s11 (zo_Loans hb1) rfl wi_X3_latestAhead wm_X3_latestAhead ⟨by omega, by decide⟩ wl_X1_37 dX1_gatherFor_54 rfl (Nat.le_of_ble_eq_true rfl) rfl ?_
      intro r8 h9 s11
      obtain ⟨x12, rfl, Q⟩ := Q _ _ s11
      refine z_istore (pc := 57) (ls' := [(10, _), (9, _), (8, _), (7, _), (6, _), (0, _), (1, _), (2, _), (3, _), (4, _), (5, _)]) dX1_gatherFor_57 (by decide) rfl ?_
      refine z_iconst (pc := 59) (a := 0) dX1_gatherFor_59 rfl ?_
      refine z_istore (pc := 60) (ls' := [(11, _), (10, _), (9, _), (8, _), (7, _), (6, _), (0, _), (1, _), (2, _), (3, _), (4, _), (5, _)]) dX1_gatherFor_60 (by decide) rfl ?_
      exact z_sub (ks := [6, 7, 8, 9, 10, 11, 5, 4, 3, 2, 1, 0]) rfl Q
    · replace Q := Q.2 c
      exact z_vret (pc := 46) rfl dX1_gatherFor_46 Q
set_option maxHeartbeats 4000000 in
set_option maxRecDepth 100000 in
theorem k_X1_gatherFor_62 {d : Nat} {Post : Option zA → zH → Prop} {Γ : zCx} {h : zH} {b1 : Nat} {v2 : Int} {v3 : Int} {v4 : Int} {v5 : Int} {v7 : Int} {v8 : Int} {v9 : Int} {v10 : Int} {v11 : Int} (hb1 : zSt b1) (hd : 1 ≤ d) (Q :
 ((40 ≤ v11 →
  ((¬ (h (b1 + 9) 7) = v7 →
   Post none h) ∧
  ((h (b1 + 9) 7) = v7 →
   0 ≤ v8 ∧ v8 < 384 ∧
   ∀ h3 : zH, h3 = zu h 124 v8.toNat v7 →
   Post none h3))) ∧
 (¬ 40 ≤ v11 →
  ((v10 < 0 →
   ((¬ (h (b1 + 9) 7) = v7 →
    Post none h) ∧
   ((h (b1 + 9) 7) = v7 →
    0 ≤ v8 ∧ v8 < 384 ∧
    ∀ h6 : zH, h6 = zu h 124 v8.toNat v7 →
    Post none h6))) ∧
  (¬ v10 < 0 →
   ∃ (d7 : Nat) (P8 : Option zA → zH → Prop), d7 + 1 ≤ d ∧ zSp d7 mX1_needyBorrower [zR b1, zI v10, zI v9] h P8 ∧ ∀ r9 h10, P8 r9 h10 →
   ∃ x13 : Int, r9 = some (zI x13) ∧
   ((x13 < 0 →
    ∃ (d14 : Nat) (P15 : Option zA → zH → Prop), d14 + 1 ≤ d ∧ zSp d14 mX4_endLoan [zR b1, zI v10] h10 P15 ∧ ∀ r16 h17, P15 r16 h17 →
    ∃ x20 : Int, r16 = some (zI x20) ∧
    ∃ (d21 : Nat) (P22 : Option zA → zH → Prop), d21 + 1 ≤ d ∧ zSp d21 mX3_latestAhead [zR (b1 + 9), zI v10, zI v2, zI v3] h17 P22 ∧ ∀ r23 h24, P22 r23 h24 →
    ∃ x27 : Int, r23 = some (zI x27) ∧
    ∀ x28 : Int, x28 = zwr (v11 + 1) →
    zV RX1 cX1_gatherFor 13 none d Post Γ 62 [(0, zR b1), (1, zR 124), (2, zI v2), (3, zI v3), (4, zI v4), (5, zI v5), (6, zR (b1 + 9)), (7, zI v7), (8, zI v8), (9, zI v9), (10, zI x27), (11, zI x28)] [] h24) ∧
   (¬ x13 < 0 →
    ∃ (d29 : Nat) (P30 : Option zA → zH → Prop), d29 + 1 ≤ d ∧ zSp d29 mX1_gatherFor [zR b1, zR 124, zI x13, zI v3, zI v9, zI (zwr (v5 + 1))] h10 P30 ∧ ∀ r31 h32, P30 r31 h32 →
    r31 = none ∧
    ∃ (d35 : Nat) (P36 : Option zA → zH → Prop), d35 + 1 ≤ d ∧ zSp d35 mX4_endLoan [zR b1, zI v10] h32 P36 ∧ ∀ r37 h38, P36 r37 h38 →
    ∃ x41 : Int, r37 = some (zI x41) ∧
    ∃ (d42 : Nat) (P43 : Option zA → zH → Prop), d42 + 1 ≤ d ∧ zSp d42 mX3_latestAhead [zR (b1 + 9), zI v10, zI v2, zI v3] h38 P43 ∧ ∀ r44 h45, P43 r44 h45 →
    ∃ x48 : Int, r44 = some (zI x48) ∧
    ∀ x49 : Int, x49 = zwr (v11 + 1) →
    zV RX1 cX1_gatherFor 13 none d Post Γ 62 [(0, zR b1), (1, zR 124), (2, zI v2), (3, zI v3), (4, zI v4), (5, zI v5), (6, zR (b1 + 9)), (7, zI v7), (8, zI v8), (9, zI v9), (10, zI x48), (11, zI x49)] [] h45))))))) :
    zV RX1 cX1_gatherFor 13 none d Post Γ 62 [(0, zR b1), (1, zR 124), (2, zI v2), (3, zI v3), (4, zI v4), (5, zI v5), (6, zR (b1 + 9)), (7, zI v7), (8, zI v8), (9, zI v9), (10, zI v10), (11, zI v11)] [] h := by
  refine z_iload (pc := 62) (n := 11) dX1_gatherFor_62 rfl ?_
  refine z_bipush (pc := 64) (a := 40) dX1_gatherFor_64 rfl ?_
  refine z_icmp_ge (pc := 66) (tgt := 127) dX1_gatherFor_66 (by decide) (fun c => ?_) (fun c => ?_)
  · replace Q := Q.1 c
    refine z_aload (pc := 127) (n := 6) dX1_gatherFor_127 rfl ?_
    refine z_getI (pc := 129) (zo_Loans hb1) rfl inT3 (i := 7) (by decide) wf_X1_27 rfl (fun _ _ => rfl) dX1_gatherFor_129 ?_
    refine z_iload (pc := 132) (n := 7) dX1_gatherFor_132 rfl ?_
    refine z_icmp_ne (pc := 134) (tgt := 143) dX1_gatherFor_134 (by decide) (fun c => ?_) (fun c => ?_)
    · replace Q := Q.1 c
      exact z_vret (pc := 143) rfl dX1_gatherFor_143 Q
    · replace Q := Q.2 c
      refine z_aload_n (pc := 137) (n := 1) dX1_gatherFor_137 rfl rfl ?_
      refine z_iload (pc := 138) (n := 8) dX1_gatherFor_138 rfl ?_
      refine z_iload (pc := 140) (n := 7) dX1_gatherFor_140 rfl ?_
      obtain ⟨c1, c2, Q⟩ := Q
      refine z_iast (pc := 142) za_idleAt c1 c2 dX1_gatherFor_142 ?_
      refine z_heap (fun h3 eh3 => ?_)
      replace Q := Q h3 eh3
      exact z_vret (pc := 143) rfl dX1_gatherFor_143 Q
  · replace Q := Q.2 c
    refine z_iload (pc := 69) (n := 10) dX1_gatherFor_69 rfl ?_
    refine z_if_lt (pc := 71) (tgt := 127) dX1_gatherFor_71 (by decide) (fun c => ?_) (fun c => ?_)
    · replace Q := Q.1 c
      refine z_aload (pc := 127) (n := 6) dX1_gatherFor_127 rfl ?_
      refine z_getI (pc := 129) (zo_Loans hb1) rfl inT3 (i := 7) (by decide) wf_X1_27 rfl (fun _ _ => rfl) dX1_gatherFor_129 ?_
      refine z_iload (pc := 132) (n := 7) dX1_gatherFor_132 rfl ?_
      refine z_icmp_ne (pc := 134) (tgt := 143) dX1_gatherFor_134 (by decide) (fun c => ?_) (fun c => ?_)
      · replace Q := Q.1 c
        exact z_vret (pc := 143) rfl dX1_gatherFor_143 Q
      · replace Q := Q.2 c
        refine z_aload_n (pc := 137) (n := 1) dX1_gatherFor_137 rfl rfl ?_
        refine z_iload (pc := 138) (n := 8) dX1_gatherFor_138 rfl ?_
        refine z_iload (pc := 140) (n := 7) dX1_gatherFor_140 rfl ?_
        obtain ⟨c4, c5, Q⟩ := Q
        refine z_iast (pc := 142) za_idleAt c4 c5 dX1_gatherFor_142 ?_
        refine z_heap (fun h6 eh6 => ?_)
        replace Q := Q h6 eh6
        exact z_vret (pc := 143) rfl dX1_gatherFor_143 Q
    · replace Q := Q.2 c
      refine z_aload_n (pc := 74) (n := 0) dX1_gatherFor_74 rfl rfl ?_
      refine z_iload (pc := 75) (n := 10) dX1_gatherFor_75 rfl ?_
      refine z_iload (pc := 77) (n := 9) dX1_gatherFor_77 rfl ?_
      obtain ⟨d7, P8, e11, s12, Q⟩ := Q
      refine z_callS (pc := 79) (M := mX1_needyBorrower) (as := [_, _, _]) (st := []) s12 wt_X1_needyBorrower wm_X1_needyBorrower ⟨by omega, by decide⟩ wl_X1_41 dX1_gatherFor_79 rfl (Nat.le_of_ble_eq_true rfl) rfl ?_
      intro r9 h10 s12
      obtain ⟨x13, rfl, Q⟩ := Q _ _ s12
      refine z_istore (pc := 82) (ls' := [(12, _), (0, _), (1, _), (2, _), (3, _), (4, _), (5, _), (6, _), (7, _), (8, _), (9, _), (10, _), (11, _)]) dX1_gatherFor_82 (by decide) rfl ?_
      refine z_iload (pc := 84) (n := 0) dX1_gatherFor_84 rfl ?_
      refine z_if_lt (pc := 86) (tgt := 103) dX1_gatherFor_86 (by decide) (fun c => ?_) (fun c => ?_)
      · replace Q := Q.1 c
        refine z_aload_n (pc := 103) (n := 1) dX1_gatherFor_103 rfl rfl ?_
        refine z_iload (pc := 104) (n := 11) dX1_gatherFor_104 rfl ?_
        obtain ⟨d14, P15, e18, s19, Q⟩ := Q
        refine z_callV (pc := 106) (M := mX4_endLoan) (as := [_]) (st := []) s19 (zo_State hb1) rfl wi_X4_endLoan wm_X4_endLoan ⟨by omega, by decide⟩ wl_X1_45 dX1_gatherFor_106 rfl (Nat.le_of_ble_eq_true rfl) rfl ?_
        intro r16 h17 s19
        obtain ⟨x20, rfl, Q⟩ := Q _ _ s19
        refine z_pop (pc := 109) dX1_gatherFor_109 rfl ?_
        refine z_aload (pc := 110) (n := 7) dX1_gatherFor_110 rfl ?_
        refine z_iload (pc := 112) (n := 11) dX1_gatherFor_112 rfl ?_
        refine z_iload_n (pc := 114) (n := 3) dX1_gatherFor_114 rfl rfl ?_
        refine z_iload_n (pc := 115) (n := 4) dX1_gatherFor_115 rfl rfl ?_
        obtain ⟨d21, P22, e25, s26, Q⟩ := Q
        refine z_callV (pc := 116) (M := mX3_latestAhead) (as := [_, _, _]) (st := []) s26 (zo_Loans hb1) rfl wi_X3_latestAhead wm_X3_latestAhead ⟨by omega, by decide⟩ wl_X1_37 dX1_gatherFor_116 rfl (Nat.le_of_ble_eq_true rfl) rfl ?_
        intro r23 h24 s26
        obtain ⟨x27, rfl, Q⟩ := Q _ _ s26
        refine z_istore (pc := 119) (ls' := [(10, _), (12, _), (0, _), (1, _), (2, _), (3, _), (4, _), (5, _), (6, _), (7, _), (8, _), (9, _), (11, _)]) dX1_gatherFor_119 (by decide) rfl ?_
        refine z_iincg (pc := 121) (n := 12) (lf := fun y => [(11, zI y), (10, _), (12, _), (0, _), (1, _), (2, _), (3, _), (4, _), (5, _), (6, _), (7, _), (8, _), (9, _)]) dX1_gatherFor_121 rfl (by decide) (fun _ => rfl) (fun x28 ex28 => ?_)
        replace Q := Q x28 ex28
        refine z_goto (pc := 124) (tgt := 62) dX1_gatherFor_124 (by decide) ?_
        exact z_sub (ks := [3, 4, 5, 6, 7, 8, 9, 10, 11, 12, 1, 0]) rfl Q
      · replace Q := Q.2 c
        refine z_aload_n (pc := 89) (n := 1) dX1_gatherFor_89 rfl rfl ?_
        refine z_aload_n (pc := 90) (n := 2) dX1_gatherFor_90 rfl rfl ?_
        refine z_iload (pc := 91) (n := 0) dX1_gatherFor_91 rfl ?_
        refine z_iload_n (pc := 93) (n := 4) dX1_gatherFor_93 rfl rfl ?_
        refine z_iload (pc := 94) (n := 10) dX1_gatherFor_94 rfl ?_
        refine z_iload (pc := 96) (n := 6) dX1_gatherFor_96 rfl ?_
        refine z_iconst (pc := 98) (a := 1) dX1_gatherFor_98 rfl ?_
        refine z_iadd (pc := 99) dX1_gatherFor_99 ?_
        obtain ⟨d29, P30, e33, s34, Q⟩ := Q
        refine z_callS (pc := 100) (M := mX1_gatherFor) (as := [_, _, _, _, _, _]) (st := []) s34 wt_X1_gatherFor wm_X1_gatherFor ⟨by omega, by decide⟩ wl_X1_33 dX1_gatherFor_100 rfl (Nat.le_of_ble_eq_true rfl) rfl ?_
        intro r31 h32 s34
        obtain ⟨rfl, Q⟩ := Q _ _ s34
        refine z_aload_n (pc := 103) (n := 1) dX1_gatherFor_103 rfl rfl ?_
        refine z_iload (pc := 104) (n := 11) dX1_gatherFor_104 rfl ?_
        obtain ⟨d35, P36, e39, s40, Q⟩ := Q
        refine z_callV (pc := 106) (M := mX4_endLoan) (as := [_]) (st := []) s40 (zo_State hb1) rfl wi_X4_endLoan wm_X4_endLoan ⟨by omega, by decide⟩ wl_X1_45 dX1_gatherFor_106 rfl (Nat.le_of_ble_eq_true rfl) rfl ?_
        intro r37 h38 s40
        obtain ⟨x41, rfl, Q⟩ := Q _ _ s40
        refine z_pop (pc := 109) dX1_gatherFor_109 rfl ?_
        refine z_aload (pc := 110) (n := 7) dX1_gatherFor_110 rfl ?_
        refine z_iload (pc := 112) (n := 11) dX1_gatherFor_112 rfl ?_
        refine z_iload_n (pc := 114) (n := 3) dX1_gatherFor_114 rfl rfl ?_
        refine z_iload_n (pc := 115) (n := 4) dX1_gatherFor_115 rfl rfl ?_
        obtain ⟨d42, P43, e46, s47, Q⟩ := Q
        refine z_callV (pc := 116) (M := mX3_latestAhead) (as := [_, _, _]) (st := []) s47 (zo_Loans hb1) rfl wi_X3_latestAhead wm_X3_latestAhead ⟨by omega, by decide⟩ wl_X1_37 dX1_gatherFor_116 rfl (Nat.le_of_ble_eq_true rfl) rfl ?_
        intro r44 h45 s47
        obtain ⟨x48, rfl, Q⟩ := Q _ _ s47
        refine z_istore (pc := 119) (ls' := [(10, _), (12, _), (0, _), (1, _), (2, _), (3, _), (4, _), (5, _), (6, _), (7, _), (8, _), (9, _), (11, _)]) dX1_gatherFor_119 (by decide) rfl ?_
        refine z_iincg (pc := 121) (n := 12) (lf := fun y => [(11, zI y), (10, _), (12, _), (0, _), (1, _), (2, _), (3, _), (4, _), (5, _), (6, _), (7, _), (8, _), (9, _)]) dX1_gatherFor_121 rfl (by decide) (fun _ => rfl) (fun x49 ex49 => ?_)
        replace Q := Q x49 ex49
        refine z_goto (pc := 124) (tgt := 62) dX1_gatherFor_124 (by decide) ?_
        exact z_sub (ks := [3, 4, 5, 6, 7, 8, 9, 10, 11, 12, 1, 0]) rfl Q
set_option maxHeartbeats 4000000 in
set_option maxRecDepth 100000 in
theorem k_X1_needyBorrower_0 {d : Nat} {Post : Option zA → zH → Prop} {Γ : zCx} {h : zH} {b1 : Nat} {a2 : Int} {a3 : Int} (hb1 : zSt b1) (hd : 1 ≤ d) (Q :
 ∃ (d1 : Nat) (P2 : Option zA → zH → Prop), d1 + 1 ≤ d ∧ zSp d1 mX3_rowOf [zR (b1 + 9), zI a2] h P2 ∧ ∀ r3 h4, P2 r3 h4 →
 ∃ x7 : Int, r3 = some (zI x7) ∧
 ((0 ≤ x7 →
  0 ≤ x7 ∧ x7 < 40 ∧
  ∀ x10 : Int, x10 = (h4 (b1 + 12) x7.toNat) →
  (((zand (zshr a3 x10) 1) = 0 →
   zV RX1 cX1_needyBorrower 7 (some .int) d Post Γ 40 [(0, zR b1), (1, zI a2), (2, zI a3), (3, zI x7), (4, zI x10)] [zI 0] h4) ∧
  (¬ (zand (zshr a3 x10) 1) = 0 →
   zV RX1 cX1_needyBorrower 7 (some .int) d Post Γ 40 [(0, zR b1), (1, zI a2), (2, zI a3), (3, zI x7), (4, zI x10)] [zI 1] h4))) ∧
 (¬ 0 ≤ x7 →
  Post (some (zI (-1))) h4))) :
    zV RX1 cX1_needyBorrower 7 (some .int) d Post Γ 0 [(0, zR b1), (1, zI a2), (2, zI a3)] [] h := by
  refine z_aload_n (pc := 0) (n := 0) dX1_needyBorrower_0 rfl rfl ?_
  refine z_getR (pc := 1) (q2 := b1 + 9) (zo_State hb1) rfl inT4 (i := 6) (by decide) wf_X1_21 rfl (fun _ _ => rfl) dX1_needyBorrower_1 ?_
  refine z_iload_n (pc := 4) (n := 1) dX1_needyBorrower_4 rfl rfl ?_
  obtain ⟨d1, P2, e5, s6, Q⟩ := Q
  refine z_callV (pc := 5) (M := mX3_rowOf) (as := [_]) (st := []) s6 (zo_Loans hb1) rfl wi_X3_rowOf wm_X3_rowOf ⟨by omega, by decide⟩ wl_X1_49 dX1_needyBorrower_5 rfl (Nat.le_of_ble_eq_true rfl) rfl ?_
  intro r3 h4 s6
  obtain ⟨x7, rfl, Q⟩ := Q _ _ s6
  refine z_istore_n (pc := 8) (ls' := [(3, _), (0, _), (1, _), (2, _)]) dX1_needyBorrower_8 rfl (by decide) rfl ?_
  refine z_iload_n (pc := 9) (n := 0) dX1_needyBorrower_9 rfl rfl ?_
  refine z_if_ge (pc := 10) (tgt := 15) dX1_needyBorrower_10 (by decide) (fun c => ?_) (fun c => ?_)
  · replace Q := Q.1 c
    refine z_aload_n (pc := 15) (n := 1) dX1_needyBorrower_15 rfl rfl ?_
    refine z_getR (pc := 16) (q2 := b1 + 9) (zo_State hb1) rfl inT4 (i := 6) (by decide) wf_X1_21 rfl (fun _ _ => rfl) dX1_needyBorrower_16 ?_
    refine z_getR (pc := 19) (q2 := b1 + 12) (zo_Loans hb1) rfl inT3 (i := 2) (by decide) wf_X1_52 rfl (fun _ _ => rfl) dX1_needyBorrower_19 ?_
    refine z_iload_n (pc := 22) (n := 0) dX1_needyBorrower_22 rfl rfl ?_
    obtain ⟨c8, c9, Q⟩ := Q
    refine z_iald (pc := 23) (za_borrower hb1) c8 c9 dX1_needyBorrower_23 ?_
    refine z_top (fun x10 ex10 => ?_)
    replace Q := Q x10 ex10
    refine z_istore (pc := 24) (ls' := [(4, _), (3, _), (0, _), (1, _), (2, _)]) dX1_needyBorrower_24 (by decide) rfl ?_
    refine z_iload_n (pc := 26) (n := 4) dX1_needyBorrower_26 rfl rfl ?_
    refine z_iload (pc := 27) (n := 0) dX1_needyBorrower_27 rfl ?_
    refine z_ishr (pc := 29) dX1_needyBorrower_29 ?_
    refine z_iconst (pc := 30) (a := 1) dX1_needyBorrower_30 rfl ?_
    refine z_iand (pc := 31) dX1_needyBorrower_31 ?_
    refine z_if_eq (pc := 32) (tgt := 39) dX1_needyBorrower_32 (by decide) (fun c => ?_) (fun c => ?_)
    · replace Q := Q.1 c
      refine z_iconst (pc := 39) (a := 0) dX1_needyBorrower_39 rfl ?_
      exact z_sub (ks := [2, 3, 4, 1, 0]) rfl Q
    · replace Q := Q.2 c
      refine z_iconst (pc := 35) (a := 1) dX1_needyBorrower_35 rfl ?_
      refine z_goto (pc := 36) (tgt := 40) dX1_needyBorrower_36 (by decide) ?_
      exact z_sub (ks := [2, 3, 4, 1, 0]) rfl Q
  · replace Q := Q.2 c
    refine z_iconst (pc := 13) (a := -1) dX1_needyBorrower_13 rfl ?_
    exact z_iret (pc := 14) rfl dX1_needyBorrower_14 Q
set_option maxHeartbeats 4000000 in
set_option maxRecDepth 100000 in
theorem k_X1_needyBorrower_40 {d : Nat} {Post : Option zA → zH → Prop} {Γ : zCx} {h : zH} {b1 : Nat} {v1 : Int} {v2 : Int} {v3 : Int} {v4 : Int} {w0 : Int} (hb1 : zSt b1) (hd : 2 ≤ d) (Q :
 0 ≤ v3 ∧ v3 < 40 ∧
 (0 ≤ v4 ∧ v4 ≤ 5) ∧
 (0 ≤ (h (b1 + 13) v3.toNat) ∧ (h (b1 + 13) v3.toNat) ≤ 5) ∧
 0 ≤ v3 ∧ v3 < 40 ∧
 (((h (b1 + 4) (6 * (h (b1 + 13) v3.toNat) + v4).toNat) < (h (b1 + 14) v3.toNat) →
  ((¬ w0 = 0 →
   Post (some (zI (-1))) h) ∧
  (w0 = 0 →
   Post (some (zI v4)) h))) ∧
 (¬ (h (b1 + 4) (6 * (h (b1 + 13) v3.toNat) + v4).toNat) < (h (b1 + 14) v3.toNat) →
  ((¬ w0 = 0 →
   Post (some (zI (-1))) h) ∧
  (w0 = 0 →
   Post (some (zI (-1))) h))))) :
    zV RX1 cX1_needyBorrower 7 (some .int) d Post Γ 40 [(0, zR b1), (1, zI v1), (2, zI v2), (3, zI v3), (4, zI v4)] [zI w0] h := by
  refine z_istore (pc := 40) (ls' := [(5, _), (0, _), (1, _), (2, _), (3, _), (4, _)]) dX1_needyBorrower_40 (by decide) rfl ?_
  refine z_aload_n (pc := 42) (n := 1) dX1_needyBorrower_42 rfl rfl ?_
  refine z_iload (pc := 43) (n := 5) dX1_needyBorrower_43 rfl ?_
  refine z_aload_n (pc := 45) (n := 1) dX1_needyBorrower_45 rfl rfl ?_
  refine z_getR (pc := 46) (q2 := b1 + 9) (zo_State hb1) rfl inT4 (i := 6) (by decide) wf_X1_21 rfl (fun _ _ => rfl) dX1_needyBorrower_46 ?_
  refine z_getR (pc := 49) (q2 := b1 + 13) (zo_Loans hb1) rfl inT3 (i := 3) (by decide) wf_X1_55 rfl (fun _ _ => rfl) dX1_needyBorrower_49 ?_
  refine z_iload_n (pc := 52) (n := 4) dX1_needyBorrower_52 rfl rfl ?_
  obtain ⟨c1, c2, Q⟩ := Q
  refine z_iald (pc := 53) (za_lcell hb1) c1 c2 dX1_needyBorrower_53 ?_
  obtain ⟨c3, Q⟩ := Q
  obtain ⟨c4, Q⟩ := Q
  refine z_callV (pc := 54) (M := mX4_heldBy) (as := [_, _]) (st := []) (c_X4_heldBy hb1 c3 c4) (zo_State hb1) rfl wi_X4_heldBy wm_X4_heldBy ⟨by omega, by decide⟩ wl_X1_58 dX1_needyBorrower_54 rfl (Nat.le_of_ble_eq_true rfl) rfl ?_
  rintro _ _ ⟨rfl, rfl⟩
  refine z_aload_n (pc := 57) (n := 1) dX1_needyBorrower_57 rfl rfl ?_
  refine z_getR (pc := 58) (q2 := b1 + 9) (zo_State hb1) rfl inT4 (i := 6) (by decide) wf_X1_21 rfl (fun _ _ => rfl) dX1_needyBorrower_58 ?_
  refine z_getR (pc := 61) (q2 := b1 + 14) (zo_Loans hb1) rfl inT3 (i := 4) (by decide) wf_X1_62 rfl (fun _ _ => rfl) dX1_needyBorrower_61 ?_
  refine z_iload_n (pc := 64) (n := 4) dX1_needyBorrower_64 rfl rfl ?_
  obtain ⟨c5, c6, Q⟩ := Q
  refine z_iald (pc := 65) (za_parts hb1) c5 c6 dX1_needyBorrower_65 ?_
  refine z_icmp_lt (pc := 66) (tgt := 73) dX1_needyBorrower_66 (by decide) (fun c => ?_) (fun c => ?_)
  · replace Q := Q.1 c
    refine z_iconst (pc := 73) (a := 0) dX1_needyBorrower_73 rfl ?_
    refine z_istore (pc := 74) (ls' := [(6, _), (5, _), (0, _), (1, _), (2, _), (3, _), (4, _)]) dX1_needyBorrower_74 (by decide) rfl ?_
    refine z_iload (pc := 76) (n := 1) dX1_needyBorrower_76 rfl ?_
    refine z_if_ne (pc := 78) (tgt := 86) dX1_needyBorrower_78 (by decide) (fun c => ?_) (fun c => ?_)
    · replace Q := Q.1 c
      refine z_iconst (pc := 86) (a := -1) dX1_needyBorrower_86 rfl ?_
      refine z_goto (pc := 87) (tgt := 92) dX1_needyBorrower_87 (by decide) ?_
      exact z_iret (pc := 92) rfl dX1_needyBorrower_92 Q
    · replace Q := Q.2 c
      refine z_iload (pc := 81) (n := 0) dX1_needyBorrower_81 rfl ?_
      refine z_if_eq (pc := 83) (tgt := 90) dX1_needyBorrower_83 (by decide) (fun c => ?_) (fun c => absurd c (by decide))
      refine z_iload (pc := 90) (n := 6) dX1_needyBorrower_90 rfl ?_
      exact z_iret (pc := 92) rfl dX1_needyBorrower_92 Q
  · replace Q := Q.2 c
    refine z_iconst (pc := 69) (a := 1) dX1_needyBorrower_69 rfl ?_
    refine z_goto (pc := 70) (tgt := 74) dX1_needyBorrower_70 (by decide) ?_
    refine z_istore (pc := 74) (ls' := [(6, _), (5, _), (0, _), (1, _), (2, _), (3, _), (4, _)]) dX1_needyBorrower_74 (by decide) rfl ?_
    refine z_iload (pc := 76) (n := 1) dX1_needyBorrower_76 rfl ?_
    refine z_if_ne (pc := 78) (tgt := 86) dX1_needyBorrower_78 (by decide) (fun c => ?_) (fun c => ?_)
    · replace Q := Q.1 c
      refine z_iconst (pc := 86) (a := -1) dX1_needyBorrower_86 rfl ?_
      refine z_goto (pc := 87) (tgt := 92) dX1_needyBorrower_87 (by decide) ?_
      exact z_iret (pc := 92) rfl dX1_needyBorrower_92 Q
    · replace Q := Q.2 c
      refine z_iload (pc := 81) (n := 0) dX1_needyBorrower_81 rfl ?_
      refine z_if_eq (pc := 83) (tgt := 90) dX1_needyBorrower_83 (by decide) (fun c => absurd c (by decide)) (fun c => ?_)
      refine z_iconst (pc := 86) (a := -1) dX1_needyBorrower_86 rfl ?_
      refine z_goto (pc := 87) (tgt := 92) dX1_needyBorrower_87 (by decide) ?_
      exact z_iret (pc := 92) rfl dX1_needyBorrower_92 Q
set_option maxHeartbeats 4000000 in
set_option maxRecDepth 100000 in
theorem k_X1_run_0 {d : Nat} {Post : Option zA → zH → Prop} {Γ : zCx} {h : zH} {b1 : Nat} {a2 : Int} {a3 : Int} (hb1 : zSt b1) (hd : 1 ≤ d) (Q :
 ∃ (d1 : Nat) (P2 : Option zA → zH → Prop), d1 + 1 ≤ d ∧ zSp d1 mJ7_fill_53178 [zR 124, zI (-1)] h P2 ∧ ∀ r3 h4, P2 r3 h4 →
 r3 = none ∧
 ∀ x7 : Int, x7 = (h4 (b1 + 9) 7) →
 ∃ (d8 : Nat) (P9 : Option zA → zH → Prop), d8 + 1 ≤ d ∧ zSp d8 mX1_gatherFor [zR b1, zR 124, zI a2, zI a3, zI 0, zI 0] h4 P9 ∧ ∀ r10 h11, P9 r10 h11 →
 r10 = none ∧
 Post (some (zI (zwr ((h11 (b1 + 9) 7) - x7)))) h11) :
    zV RX1 cX1_run 5 (some .int) d Post Γ 0 [(0, zR 123), (1, zR b1), (2, zI a2), (3, zI a3)] [] h := by
  refine z_aload_n (pc := 0) (n := 0) dX1_run_0 rfl rfl ?_
  refine z_getR (pc := 1) (q2 := 124) zo_Gathering rfl inT1 (i := 0) (by decide) wf_X1_9 rfl (fun _ _ => rfl) dX1_run_1 ?_
  refine z_iconst (pc := 4) (a := -1) dX1_run_4 rfl ?_
  obtain ⟨d1, P2, e5, s6, Q⟩ := Q
  refine z_callS (pc := 5) (M := mJ7_fill_53178) (as := [_, _]) (st := []) s6 wt_J7_fill_53178 wm_J7_fill_53178 ⟨by omega, by decide⟩ wl_X1_15 dX1_run_5 rfl (Nat.le_of_ble_eq_true rfl) rfl ?_
  intro r3 h4 s6
  obtain ⟨rfl, Q⟩ := Q _ _ s6
  refine z_aload_n (pc := 8) (n := 1) dX1_run_8 rfl rfl ?_
  refine z_getR (pc := 9) (q2 := b1 + 9) (zo_State hb1) rfl inT4 (i := 6) (by decide) wf_X1_21 rfl (fun _ _ => rfl) dX1_run_9 ?_
  refine z_getI (pc := 12) (zo_Loans hb1) rfl inT3 (i := 7) (by decide) wf_X1_27 rfl (fun _ _ => rfl) dX1_run_12 ?_
  refine z_top (fun x7 ex7 => ?_)
  replace Q := Q x7 ex7
  refine z_istore (pc := 15) (ls' := [(4, _), (0, _), (1, _), (2, _), (3, _)]) dX1_run_15 (by decide) rfl ?_
  refine z_aload_n (pc := 17) (n := 2) dX1_run_17 rfl rfl ?_
  refine z_aload_n (pc := 18) (n := 1) dX1_run_18 rfl rfl ?_
  refine z_getR (pc := 19) (q2 := 124) zo_Gathering rfl inT1 (i := 0) (by decide) wf_X1_9 rfl (fun _ _ => rfl) dX1_run_19 ?_
  refine z_iload_n (pc := 22) (n := 3) dX1_run_22 rfl rfl ?_
  refine z_iload_n (pc := 23) (n := 4) dX1_run_23 rfl rfl ?_
  refine z_iconst (pc := 24) (a := 0) dX1_run_24 rfl ?_
  refine z_iconst (pc := 25) (a := 0) dX1_run_25 rfl ?_
  obtain ⟨d8, P9, e12, s13, Q⟩ := Q
  refine z_callS (pc := 26) (M := mX1_gatherFor) (as := [_, _, _, _, _, _]) (st := []) s13 wt_X1_gatherFor wm_X1_gatherFor ⟨by omega, by decide⟩ wl_X1_33 dX1_run_26 rfl (Nat.le_of_ble_eq_true rfl) rfl ?_
  intro r10 h11 s13
  obtain ⟨rfl, Q⟩ := Q _ _ s13
  refine z_aload_n (pc := 29) (n := 2) dX1_run_29 rfl rfl ?_
  refine z_getR (pc := 30) (q2 := b1 + 9) (zo_State hb1) rfl inT4 (i := 6) (by decide) wf_X1_21 rfl (fun _ _ => rfl) dX1_run_30 ?_
  refine z_getI (pc := 33) (zo_Loans hb1) rfl inT3 (i := 7) (by decide) wf_X1_27 rfl (fun _ _ => rfl) dX1_run_33 ?_
  refine z_iload (pc := 36) (n := 0) dX1_run_36 rfl ?_
  refine z_isub (pc := 38) dX1_run_38 ?_
  exact z_iret (pc := 39) rfl dX1_run_39 Q
set_option maxHeartbeats 4000000 in
set_option maxRecDepth 100000 in
theorem k_X2_open_0 {d : Nat} {Post : Option zA → zH → Prop} {Γ : zCx} {h : zH} {b1 : Nat} (hb1 : zSt b1) (hd : 1 ≤ d) (Q :
 0 ≤ (h 46 1) ∧ (h 46 1) < 5 ∧
 ∃ (d4 : Nat) (P5 : Option zA → zH → Prop), d4 + 1 ≤ d ∧ zSp d4 mX4_copyFrom [zR ((48 + 15 * (h 46 1).toNat)), zR b1] h P5 ∧ ∀ r6 h7, P5 r6 h7 →
 r6 = none ∧
 Post none h7) :
    zV RX2 cX2_open 2 none d Post Γ 0 [(0, zR 46), (1, zR b1)] [] h := by
  refine z_aload_n (pc := 0) (n := 0) dX2_open_0 rfl rfl ?_
  refine z_getR (pc := 1) (q2 := 47) zo_History rfl inT2 (i := 0) (by decide) wf_X2_13 rfl (fun _ _ => rfl) dX2_open_1 ?_
  refine z_aload_n (pc := 4) (n := 0) dX2_open_4 rfl rfl ?_
  refine z_getI (pc := 5) zo_History rfl inT2 (i := 1) (by decide) wf_X2_22 rfl (fun _ _ => rfl) dX2_open_5 ?_
  obtain ⟨c1, c2, Q⟩ := Q
  have hs3 := zSt_row (a := (h 46 1)) c1 c2
  refine z_aald (pc := 8) c1 c2 dX2_open_8 ?_
  refine z_aload_n (pc := 9) (n := 1) dX2_open_9 rfl rfl ?_
  obtain ⟨d4, P5, e8, s9, Q⟩ := Q
  refine z_callV (pc := 10) (M := mX4_copyFrom) (as := [_]) (st := []) s9 (zo_State hs3) rfl wi_X4_copyFrom wm_X4_copyFrom ⟨by omega, by decide⟩ wl_X2_25 dX2_open_10 rfl (Nat.le_of_ble_eq_true rfl) rfl ?_
  intro r6 h7 s9
  obtain ⟨rfl, Q⟩ := Q _ _ s9
  exact z_vret (pc := 13) rfl dX2_open_13 Q
set_option maxHeartbeats 4000000 in
set_option maxRecDepth 100000 in
theorem k_X2_opened_0 {d : Nat} {Post : Option zA → zH → Prop} {Γ : zCx} {h : zH}   (hd : 1 ≤ d) (Q :
 0 ≤ (h 46 1) ∧ (h 46 1) < 5 ∧
 Post (some (zR ((48 + 15 * (h 46 1).toNat)))) h) :
    zV RX2 cX2_opened 1 (some (.object "LentParts$State")) d Post Γ 0 [(0, zR 46)] [] h := by
  refine z_aload_n (pc := 0) (n := 0) dX2_opened_0 rfl rfl ?_
  refine z_getR (pc := 1) (q2 := 47) zo_History rfl inT2 (i := 0) (by decide) wf_X2_13 rfl (fun _ _ => rfl) dX2_opened_1 ?_
  refine z_aload_n (pc := 4) (n := 0) dX2_opened_4 rfl rfl ?_
  refine z_getI (pc := 5) zo_History rfl inT2 (i := 1) (by decide) wf_X2_22 rfl (fun _ _ => rfl) dX2_opened_5 ?_
  obtain ⟨c1, c2, Q⟩ := Q
  have hs3 := zSt_row (a := (h 46 1)) c1 c2
  refine z_aald (pc := 8) c1 c2 dX2_opened_8 ?_
  exact z_aret (pc := 9) rfl dX2_opened_9 Q
set_option maxHeartbeats 4000000 in
set_option maxRecDepth 100000 in
theorem k_X2_record_0 {d : Nat} {Post : Option zA → zH → Prop} {Γ : zCx} {h : zH}   (hd : 1 ≤ d) (Q :
 ∀ h1 : zH, h1 = zu h 46 1 (zrem (zwr ((h 46 1) + 1)) 5) →
 ∀ h2 : zH, h2 = zu h1 46 2 (if 4 < (zwr ((h1 46 2) + 1)) then 4 else (zwr ((h1 46 2) + 1))) →
 Post none h2) :
    zV RX2 cX2_record 1 none d Post Γ 0 [(0, zR 46)] [] h := by
  refine z_aload_n (pc := 0) (n := 0) dX2_record_0 rfl rfl ?_
  refine z_aload_n (pc := 1) (n := 0) dX2_record_1 rfl rfl ?_
  refine z_getI (pc := 2) zo_History rfl inT2 (i := 1) (by decide) wf_X2_22 rfl (fun _ _ => rfl) dX2_record_2 ?_
  refine z_iconst (pc := 5) (a := 1) dX2_record_5 rfl ?_
  refine z_iadd (pc := 6) dX2_record_6 ?_
  refine z_iconst (pc := 7) (a := 5) dX2_record_7 rfl ?_
  refine z_irem (pc := 8) dX2_record_8 (by decide) ?_
  refine z_putI (pc := 9) zo_History rfl inT2 (i := 1) (by decide) wf_X2_22 rfl tyX2 tyX2_ok nmX2 rfl (fun _ _ => Nat.le_of_ble_eq_true rfl) (fun _ _ _ => rfl) rfl dX2_record_9 ?_
  refine z_heap (fun h1 eh1 => ?_)
  replace Q := Q h1 eh1
  refine z_aload_n (pc := 12) (n := 0) dX2_record_12 rfl rfl ?_
  refine z_aload_n (pc := 13) (n := 0) dX2_record_13 rfl rfl ?_
  refine z_getI (pc := 14) zo_History rfl inT2 (i := 2) (by decide) wf_X2_18 rfl (fun _ _ => rfl) dX2_record_14 ?_
  refine z_iconst (pc := 17) (a := 1) dX2_record_17 rfl ?_
  refine z_iadd (pc := 18) dX2_record_18 ?_
  refine z_iconst (pc := 19) (a := 4) dX2_record_19 rfl ?_
  refine z_min (pc := 20) wl_X2_29 (by omega) (Nat.le_of_ble_eq_true rfl) dX2_record_20 ?_
  refine z_putI (pc := 23) zo_History rfl inT2 (i := 2) (by decide) wf_X2_18 rfl tyX2 tyX2_ok nmX2 rfl (fun _ _ => Nat.le_of_ble_eq_true rfl) (fun _ _ _ => rfl) rfl dX2_record_23 ?_
  refine z_heap (fun h2 eh2 => ?_)
  replace Q := Q h2 eh2
  exact z_vret (pc := 26) rfl dX2_record_26 Q
set_option maxHeartbeats 4000000 in
set_option maxRecDepth 100000 in
theorem k_X2_takeLatest_0 {d : Nat} {Post : Option zA → zH → Prop} {Γ : zCx} {h : zH}   (hd : 1 ≤ d) (Q :
 ((¬ (h 46 2) = 0 →
  ∀ h1 : zH, h1 = zu h 46 2 (zwr ((h 46 2) - 1)) →
  ∀ h2 : zH, h2 = zu h1 46 1 (zrem (zwr ((zwr ((h1 46 1) + 5)) - 1)) 5) →
  0 ≤ (h2 46 1) ∧ (h2 46 1) < 5 ∧
  Post (some (zR ((48 + 15 * (h2 46 1).toNat)))) h2) ∧
 ((h 46 2) = 0 →
  Post (some (zN)) h))) :
    zV RX2 cX2_takeLatest 1 (some (.object "LentParts$State")) d Post Γ 0 [(0, zR 46)] [] h := by
  refine z_aload_n (pc := 0) (n := 0) dX2_takeLatest_0 rfl rfl ?_
  refine z_getI (pc := 1) zo_History rfl inT2 (i := 2) (by decide) wf_X2_18 rfl (fun _ _ => rfl) dX2_takeLatest_1 ?_
  refine z_if_ne (pc := 4) (tgt := 9) dX2_takeLatest_4 (by decide) (fun c => ?_) (fun c => ?_)
  · replace Q := Q.1 c
    refine z_aload_n (pc := 9) (n := 0) dX2_takeLatest_9 rfl rfl ?_
    refine z_dup (pc := 10) dX2_takeLatest_10 rfl ?_
    refine z_getI (pc := 11) zo_History rfl inT2 (i := 2) (by decide) wf_X2_18 rfl (fun _ _ => rfl) dX2_takeLatest_11 ?_
    refine z_iconst (pc := 14) (a := 1) dX2_takeLatest_14 rfl ?_
    refine z_isub (pc := 15) dX2_takeLatest_15 ?_
    refine z_putI (pc := 16) zo_History rfl inT2 (i := 2) (by decide) wf_X2_18 rfl tyX2 tyX2_ok nmX2 rfl (fun _ _ => Nat.le_of_ble_eq_true rfl) (fun _ _ _ => rfl) rfl dX2_takeLatest_16 ?_
    refine z_heap (fun h1 eh1 => ?_)
    replace Q := Q h1 eh1
    refine z_aload_n (pc := 19) (n := 0) dX2_takeLatest_19 rfl rfl ?_
    refine z_aload_n (pc := 20) (n := 0) dX2_takeLatest_20 rfl rfl ?_
    refine z_getI (pc := 21) zo_History rfl inT2 (i := 1) (by decide) wf_X2_22 rfl (fun _ _ => rfl) dX2_takeLatest_21 ?_
    refine z_iconst (pc := 24) (a := 5) dX2_takeLatest_24 rfl ?_
    refine z_iadd (pc := 25) dX2_takeLatest_25 ?_
    refine z_iconst (pc := 26) (a := 1) dX2_takeLatest_26 rfl ?_
    refine z_isub (pc := 27) dX2_takeLatest_27 ?_
    refine z_iconst (pc := 28) (a := 5) dX2_takeLatest_28 rfl ?_
    refine z_irem (pc := 29) dX2_takeLatest_29 (by decide) ?_
    refine z_putI (pc := 30) zo_History rfl inT2 (i := 1) (by decide) wf_X2_22 rfl tyX2 tyX2_ok nmX2 rfl (fun _ _ => Nat.le_of_ble_eq_true rfl) (fun _ _ _ => rfl) rfl dX2_takeLatest_30 ?_
    refine z_heap (fun h2 eh2 => ?_)
    replace Q := Q h2 eh2
    refine z_aload_n (pc := 33) (n := 0) dX2_takeLatest_33 rfl rfl ?_
    refine z_getR (pc := 34) (q2 := 47) zo_History rfl inT2 (i := 0) (by decide) wf_X2_13 rfl (fun _ _ => rfl) dX2_takeLatest_34 ?_
    refine z_aload_n (pc := 37) (n := 0) dX2_takeLatest_37 rfl rfl ?_
    refine z_getI (pc := 38) zo_History rfl inT2 (i := 1) (by decide) wf_X2_22 rfl (fun _ _ => rfl) dX2_takeLatest_38 ?_
    obtain ⟨c3, c4, Q⟩ := Q
    have hs5 := zSt_row (a := (h2 46 1)) c3 c4
    refine z_aald (pc := 41) c3 c4 dX2_takeLatest_41 ?_
    exact z_aret (pc := 42) rfl dX2_takeLatest_42 Q
  · replace Q := Q.2 c
    refine z_null (pc := 7) dX2_takeLatest_7 ?_
    exact z_aret (pc := 8) rfl dX2_takeLatest_8 Q
set_option maxHeartbeats 4000000 in
set_option maxRecDepth 100000 in
theorem k_X3_append_0 {d : Nat} {Post : Option zA → zH → Prop} {Γ : zCx} {h : zH} {b : Nat} {a1 : Int} {a2 : Int} {a3 : Int} {a4 : Int} (hb : zSt b) (hd : 1 ≤ d) (Q :
 0 ≤ (h (b + 9) 5) ∧ (h (b + 9) 5) < 40 ∧
 ∀ h3 : zH, h3 = zu h (b + 10) (h (b + 9) 5).toNat (h (b + 9) 6) →
 0 ≤ (h3 (b + 9) 5) ∧ (h3 (b + 9) 5) < 40 ∧
 ∀ h6 : zH, h6 = zu h3 (b + 11) (h3 (b + 9) 5).toNat a1 →
 0 ≤ (h6 (b + 9) 5) ∧ (h6 (b + 9) 5) < 40 ∧
 ∀ h9 : zH, h9 = zu h6 (b + 12) (h6 (b + 9) 5).toNat a2 →
 0 ≤ (h9 (b + 9) 5) ∧ (h9 (b + 9) 5) < 40 ∧
 ∀ h12 : zH, h12 = zu h9 (b + 13) (h9 (b + 9) 5).toNat a3 →
 0 ≤ (h12 (b + 9) 5) ∧ (h12 (b + 9) 5) < 40 ∧
 ∀ h15 : zH, h15 = zu h12 (b + 14) (h12 (b + 9) 5).toNat a4 →
 ∀ h16 : zH, h16 = zu h15 (b + 9) 5 (zwr ((h15 (b + 9) 5) + 1)) →
 ∀ h17 : zH, h17 = zu h16 (b + 9) 6 (zwr ((h16 (b + 9) 6) + 1)) →
 Post (some (zI (zwr ((h17 (b + 9) 6) - 1)))) h17) :
    zV RX3 cX3_append 5 (some .int) d Post Γ 0 [(0, zR (b + 9)), (1, zI a1), (2, zI a2), (3, zI a3), (4, zI a4)] [] h := by
  refine z_aload_n (pc := 0) (n := 0) dX3_append_0 rfl rfl ?_
  refine z_getR (pc := 1) (q2 := b + 10) (zo_Loans hb) rfl inT3 (i := 0) (by decide) wf_X3_9 rfl (fun _ _ => rfl) dX3_append_1 ?_
  refine z_aload_n (pc := 4) (n := 0) dX3_append_4 rfl rfl ?_
  refine z_getI (pc := 5) (zo_Loans hb) rfl inT3 (i := 5) (by decide) wf_X3_27 rfl (fun _ _ => rfl) dX3_append_5 ?_
  refine z_aload_n (pc := 8) (n := 0) dX3_append_8 rfl rfl ?_
  refine z_getI (pc := 9) (zo_Loans hb) rfl inT3 (i := 6) (by decide) wf_X3_31 rfl (fun _ _ => rfl) dX3_append_9 ?_
  obtain ⟨c1, c2, Q⟩ := Q
  refine z_iast (pc := 12) (za_number hb) c1 c2 dX3_append_12 ?_
  refine z_heap (fun h3 eh3 => ?_)
  replace Q := Q h3 eh3
  refine z_aload_n (pc := 13) (n := 0) dX3_append_13 rfl rfl ?_
  refine z_getR (pc := 14) (q2 := b + 11) (zo_Loans hb) rfl inT3 (i := 1) (by decide) wf_X3_15 rfl (fun _ _ => rfl) dX3_append_14 ?_
  refine z_aload_n (pc := 17) (n := 0) dX3_append_17 rfl rfl ?_
  refine z_getI (pc := 18) (zo_Loans hb) rfl inT3 (i := 5) (by decide) wf_X3_27 rfl (fun _ _ => rfl) dX3_append_18 ?_
  refine z_iload_n (pc := 21) (n := 1) dX3_append_21 rfl rfl ?_
  obtain ⟨c4, c5, Q⟩ := Q
  refine z_iast (pc := 22) (za_lender hb) c4 c5 dX3_append_22 ?_
  refine z_heap (fun h6 eh6 => ?_)
  replace Q := Q h6 eh6
  refine z_aload_n (pc := 23) (n := 0) dX3_append_23 rfl rfl ?_
  refine z_getR (pc := 24) (q2 := b + 12) (zo_Loans hb) rfl inT3 (i := 2) (by decide) wf_X3_18 rfl (fun _ _ => rfl) dX3_append_24 ?_
  refine z_aload_n (pc := 27) (n := 0) dX3_append_27 rfl rfl ?_
  refine z_getI (pc := 28) (zo_Loans hb) rfl inT3 (i := 5) (by decide) wf_X3_27 rfl (fun _ _ => rfl) dX3_append_28 ?_
  refine z_iload_n (pc := 31) (n := 2) dX3_append_31 rfl rfl ?_
  obtain ⟨c7, c8, Q⟩ := Q
  refine z_iast (pc := 32) (za_borrower hb) c7 c8 dX3_append_32 ?_
  refine z_heap (fun h9 eh9 => ?_)
  replace Q := Q h9 eh9
  refine z_aload_n (pc := 33) (n := 0) dX3_append_33 rfl rfl ?_
  refine z_getR (pc := 34) (q2 := b + 13) (zo_Loans hb) rfl inT3 (i := 3) (by decide) wf_X3_21 rfl (fun _ _ => rfl) dX3_append_34 ?_
  refine z_aload_n (pc := 37) (n := 0) dX3_append_37 rfl rfl ?_
  refine z_getI (pc := 38) (zo_Loans hb) rfl inT3 (i := 5) (by decide) wf_X3_27 rfl (fun _ _ => rfl) dX3_append_38 ?_
  refine z_iload_n (pc := 41) (n := 3) dX3_append_41 rfl rfl ?_
  obtain ⟨c10, c11, Q⟩ := Q
  refine z_iast (pc := 42) (za_lcell hb) c10 c11 dX3_append_42 ?_
  refine z_heap (fun h12 eh12 => ?_)
  replace Q := Q h12 eh12
  refine z_aload_n (pc := 43) (n := 0) dX3_append_43 rfl rfl ?_
  refine z_getR (pc := 44) (q2 := b + 14) (zo_Loans hb) rfl inT3 (i := 4) (by decide) wf_X3_24 rfl (fun _ _ => rfl) dX3_append_44 ?_
  refine z_aload_n (pc := 47) (n := 0) dX3_append_47 rfl rfl ?_
  refine z_getI (pc := 48) (zo_Loans hb) rfl inT3 (i := 5) (by decide) wf_X3_27 rfl (fun _ _ => rfl) dX3_append_48 ?_
  refine z_iload (pc := 51) (n := 4) dX3_append_51 rfl ?_
  obtain ⟨c13, c14, Q⟩ := Q
  refine z_iast (pc := 53) (za_parts hb) c13 c14 dX3_append_53 ?_
  refine z_heap (fun h15 eh15 => ?_)
  replace Q := Q h15 eh15
  refine z_aload_n (pc := 54) (n := 0) dX3_append_54 rfl rfl ?_
  refine z_dup (pc := 55) dX3_append_55 rfl ?_
  refine z_getI (pc := 56) (zo_Loans hb) rfl inT3 (i := 5) (by decide) wf_X3_27 rfl (fun _ _ => rfl) dX3_append_56 ?_
  refine z_iconst (pc := 59) (a := 1) dX3_append_59 rfl ?_
  refine z_iadd (pc := 60) dX3_append_60 ?_
  refine z_putI (pc := 61) (zo_Loans hb) rfl inT3 (i := 5) (by decide) wf_X3_27 rfl tyX3 tyX3_ok nmX3 rfl (fun _ _ => Nat.le_of_ble_eq_true rfl) (fun _ _ _ => rfl) rfl dX3_append_61 ?_
  refine z_heap (fun h16 eh16 => ?_)
  replace Q := Q h16 eh16
  refine z_aload_n (pc := 64) (n := 0) dX3_append_64 rfl rfl ?_
  refine z_dup (pc := 65) dX3_append_65 rfl ?_
  refine z_getI (pc := 66) (zo_Loans hb) rfl inT3 (i := 6) (by decide) wf_X3_31 rfl (fun _ _ => rfl) dX3_append_66 ?_
  refine z_iconst (pc := 69) (a := 1) dX3_append_69 rfl ?_
  refine z_iadd (pc := 70) dX3_append_70 ?_
  refine z_putI (pc := 71) (zo_Loans hb) rfl inT3 (i := 6) (by decide) wf_X3_31 rfl tyX3 tyX3_ok nmX3 rfl (fun _ _ => Nat.le_of_ble_eq_true rfl) (fun _ _ _ => rfl) rfl dX3_append_71 ?_
  refine z_heap (fun h17 eh17 => ?_)
  replace Q := Q h17 eh17
  refine z_aload_n (pc := 74) (n := 0) dX3_append_74 rfl rfl ?_
  refine z_getI (pc := 75) (zo_Loans hb) rfl inT3 (i := 6) (by decide) wf_X3_31 rfl (fun _ _ => rfl) dX3_append_75 ?_
  refine z_iconst (pc := 78) (a := 1) dX3_append_78 rfl ?_
  refine z_isub (pc := 79) dX3_append_79 ?_
  exact z_iret (pc := 80) rfl dX3_append_80 Q
set_option maxHeartbeats 4000000 in
set_option maxRecDepth 100000 in
theorem k_X3_copyFrom_0 {d : Nat} {Post : Option zA → zH → Prop} {Γ : zCx} {h : zH} {b : Nat} {b1 : Nat} (hb : zSt b) (hb1 : zSt b1) (hd : 1 ≤ d) (Q :
 ∀ h1 : zH, h1 = zu h (b + 9) 5 (h (b1 + 9) 5) →
 ∀ h2 : zH, h2 = zu h1 (b + 9) 6 (h1 (b1 + 9) 6) →
 ∀ h3 : zH, h3 = zu h2 (b + 9) 7 (h2 (b1 + 9) 7) →
 0 ≤ (h3 (b + 9) 5) ∧
 0 + (h3 (b + 9) 5) ≤ 40 ∧
 0 + (h3 (b + 9) 5) ≤ 40 ∧
 ∀ h7 : zH, h7 = zcp h3 (b1 + 10) 0 (b + 10) 0 (h3 (b + 9) 5).toNat →
 0 ≤ (h7 (b + 9) 5) ∧
 0 + (h7 (b + 9) 5) ≤ 40 ∧
 0 + (h7 (b + 9) 5) ≤ 40 ∧
 ∀ h11 : zH, h11 = zcp h7 (b1 + 11) 0 (b + 11) 0 (h7 (b + 9) 5).toNat →
 0 ≤ (h11 (b + 9) 5) ∧
 0 + (h11 (b + 9) 5) ≤ 40 ∧
 0 + (h11 (b + 9) 5) ≤ 40 ∧
 ∀ h15 : zH, h15 = zcp h11 (b1 + 12) 0 (b + 12) 0 (h11 (b + 9) 5).toNat →
 0 ≤ (h15 (b + 9) 5) ∧
 0 + (h15 (b + 9) 5) ≤ 40 ∧
 0 + (h15 (b + 9) 5) ≤ 40 ∧
 ∀ h19 : zH, h19 = zcp h15 (b1 + 13) 0 (b + 13) 0 (h15 (b + 9) 5).toNat →
 0 ≤ (h19 (b + 9) 5) ∧
 0 + (h19 (b + 9) 5) ≤ 40 ∧
 0 + (h19 (b + 9) 5) ≤ 40 ∧
 ∀ h23 : zH, h23 = zcp h19 (b1 + 14) 0 (b + 14) 0 (h19 (b + 9) 5).toNat →
 Post none h23) :
    zV RX3 cX3_copyFrom 2 none d Post Γ 0 [(0, zR (b + 9)), (1, zR (b1 + 9))] [] h := by
  refine z_aload_n (pc := 0) (n := 0) dX3_copyFrom_0 rfl rfl ?_
  refine z_aload_n (pc := 1) (n := 1) dX3_copyFrom_1 rfl rfl ?_
  refine z_getI (pc := 2) (zo_Loans hb1) rfl inT3 (i := 5) (by decide) wf_X3_27 rfl (fun _ _ => rfl) dX3_copyFrom_2 ?_
  refine z_putI (pc := 5) (zo_Loans hb) rfl inT3 (i := 5) (by decide) wf_X3_27 rfl tyX3 tyX3_ok nmX3 rfl (fun _ _ => Nat.le_of_ble_eq_true rfl) (fun _ _ _ => rfl) rfl dX3_copyFrom_5 ?_
  refine z_heap (fun h1 eh1 => ?_)
  replace Q := Q h1 eh1
  refine z_aload_n (pc := 8) (n := 0) dX3_copyFrom_8 rfl rfl ?_
  refine z_aload_n (pc := 9) (n := 1) dX3_copyFrom_9 rfl rfl ?_
  refine z_getI (pc := 10) (zo_Loans hb1) rfl inT3 (i := 6) (by decide) wf_X3_31 rfl (fun _ _ => rfl) dX3_copyFrom_10 ?_
  refine z_putI (pc := 13) (zo_Loans hb) rfl inT3 (i := 6) (by decide) wf_X3_31 rfl tyX3 tyX3_ok nmX3 rfl (fun _ _ => Nat.le_of_ble_eq_true rfl) (fun _ _ _ => rfl) rfl dX3_copyFrom_13 ?_
  refine z_heap (fun h2 eh2 => ?_)
  replace Q := Q h2 eh2
  refine z_aload_n (pc := 16) (n := 0) dX3_copyFrom_16 rfl rfl ?_
  refine z_aload_n (pc := 17) (n := 1) dX3_copyFrom_17 rfl rfl ?_
  refine z_getI (pc := 18) (zo_Loans hb1) rfl inT3 (i := 7) (by decide) wf_X3_34 rfl (fun _ _ => rfl) dX3_copyFrom_18 ?_
  refine z_putI (pc := 21) (zo_Loans hb) rfl inT3 (i := 7) (by decide) wf_X3_34 rfl tyX3 tyX3_ok nmX3 rfl (fun _ _ => Nat.le_of_ble_eq_true rfl) (fun _ _ _ => rfl) rfl dX3_copyFrom_21 ?_
  refine z_heap (fun h3 eh3 => ?_)
  replace Q := Q h3 eh3
  refine z_aload_n (pc := 24) (n := 1) dX3_copyFrom_24 rfl rfl ?_
  refine z_getR (pc := 25) (q2 := b1 + 10) (zo_Loans hb1) rfl inT3 (i := 0) (by decide) wf_X3_9 rfl (fun _ _ => rfl) dX3_copyFrom_25 ?_
  refine z_iconst (pc := 28) (a := 0) dX3_copyFrom_28 rfl ?_
  refine z_aload_n (pc := 29) (n := 0) dX3_copyFrom_29 rfl rfl ?_
  refine z_getR (pc := 30) (q2 := b + 10) (zo_Loans hb) rfl inT3 (i := 0) (by decide) wf_X3_9 rfl (fun _ _ => rfl) dX3_copyFrom_30 ?_
  refine z_iconst (pc := 33) (a := 0) dX3_copyFrom_33 rfl ?_
  refine z_aload_n (pc := 34) (n := 0) dX3_copyFrom_34 rfl rfl ?_
  refine z_getI (pc := 35) (zo_Loans hb) rfl inT3 (i := 5) (by decide) wf_X3_27 rfl (fun _ _ => rfl) dX3_copyFrom_35 ?_
  obtain ⟨c4, Q⟩ := Q
  obtain ⟨c5, Q⟩ := Q
  obtain ⟨c6, Q⟩ := Q
  refine z_copy (pc := 38) (za_number hb1) (za_number hb) wl_X3_37 wn_copy ws_copy wi_copy (by decide) (by decide) c4 c5 c6 (by omega) (by decide) dX3_copyFrom_38 ?_
  refine z_heap (fun h7 eh7 => ?_)
  replace Q := Q h7 eh7
  refine z_aload_n (pc := 41) (n := 1) dX3_copyFrom_41 rfl rfl ?_
  refine z_getR (pc := 42) (q2 := b1 + 11) (zo_Loans hb1) rfl inT3 (i := 1) (by decide) wf_X3_15 rfl (fun _ _ => rfl) dX3_copyFrom_42 ?_
  refine z_iconst (pc := 45) (a := 0) dX3_copyFrom_45 rfl ?_
  refine z_aload_n (pc := 46) (n := 0) dX3_copyFrom_46 rfl rfl ?_
  refine z_getR (pc := 47) (q2 := b + 11) (zo_Loans hb) rfl inT3 (i := 1) (by decide) wf_X3_15 rfl (fun _ _ => rfl) dX3_copyFrom_47 ?_
  refine z_iconst (pc := 50) (a := 0) dX3_copyFrom_50 rfl ?_
  refine z_aload_n (pc := 51) (n := 0) dX3_copyFrom_51 rfl rfl ?_
  refine z_getI (pc := 52) (zo_Loans hb) rfl inT3 (i := 5) (by decide) wf_X3_27 rfl (fun _ _ => rfl) dX3_copyFrom_52 ?_
  obtain ⟨c8, Q⟩ := Q
  obtain ⟨c9, Q⟩ := Q
  obtain ⟨c10, Q⟩ := Q
  refine z_copy (pc := 55) (za_lender hb1) (za_lender hb) wl_X3_37 wn_copy ws_copy wi_copy (by decide) (by decide) c8 c9 c10 (by omega) (by decide) dX3_copyFrom_55 ?_
  refine z_heap (fun h11 eh11 => ?_)
  replace Q := Q h11 eh11
  refine z_aload_n (pc := 58) (n := 1) dX3_copyFrom_58 rfl rfl ?_
  refine z_getR (pc := 59) (q2 := b1 + 12) (zo_Loans hb1) rfl inT3 (i := 2) (by decide) wf_X3_18 rfl (fun _ _ => rfl) dX3_copyFrom_59 ?_
  refine z_iconst (pc := 62) (a := 0) dX3_copyFrom_62 rfl ?_
  refine z_aload_n (pc := 63) (n := 0) dX3_copyFrom_63 rfl rfl ?_
  refine z_getR (pc := 64) (q2 := b + 12) (zo_Loans hb) rfl inT3 (i := 2) (by decide) wf_X3_18 rfl (fun _ _ => rfl) dX3_copyFrom_64 ?_
  refine z_iconst (pc := 67) (a := 0) dX3_copyFrom_67 rfl ?_
  refine z_aload_n (pc := 68) (n := 0) dX3_copyFrom_68 rfl rfl ?_
  refine z_getI (pc := 69) (zo_Loans hb) rfl inT3 (i := 5) (by decide) wf_X3_27 rfl (fun _ _ => rfl) dX3_copyFrom_69 ?_
  obtain ⟨c12, Q⟩ := Q
  obtain ⟨c13, Q⟩ := Q
  obtain ⟨c14, Q⟩ := Q
  refine z_copy (pc := 72) (za_borrower hb1) (za_borrower hb) wl_X3_37 wn_copy ws_copy wi_copy (by decide) (by decide) c12 c13 c14 (by omega) (by decide) dX3_copyFrom_72 ?_
  refine z_heap (fun h15 eh15 => ?_)
  replace Q := Q h15 eh15
  refine z_aload_n (pc := 75) (n := 1) dX3_copyFrom_75 rfl rfl ?_
  refine z_getR (pc := 76) (q2 := b1 + 13) (zo_Loans hb1) rfl inT3 (i := 3) (by decide) wf_X3_21 rfl (fun _ _ => rfl) dX3_copyFrom_76 ?_
  refine z_iconst (pc := 79) (a := 0) dX3_copyFrom_79 rfl ?_
  refine z_aload_n (pc := 80) (n := 0) dX3_copyFrom_80 rfl rfl ?_
  refine z_getR (pc := 81) (q2 := b + 13) (zo_Loans hb) rfl inT3 (i := 3) (by decide) wf_X3_21 rfl (fun _ _ => rfl) dX3_copyFrom_81 ?_
  refine z_iconst (pc := 84) (a := 0) dX3_copyFrom_84 rfl ?_
  refine z_aload_n (pc := 85) (n := 0) dX3_copyFrom_85 rfl rfl ?_
  refine z_getI (pc := 86) (zo_Loans hb) rfl inT3 (i := 5) (by decide) wf_X3_27 rfl (fun _ _ => rfl) dX3_copyFrom_86 ?_
  obtain ⟨c16, Q⟩ := Q
  obtain ⟨c17, Q⟩ := Q
  obtain ⟨c18, Q⟩ := Q
  refine z_copy (pc := 89) (za_lcell hb1) (za_lcell hb) wl_X3_37 wn_copy ws_copy wi_copy (by decide) (by decide) c16 c17 c18 (by omega) (by decide) dX3_copyFrom_89 ?_
  refine z_heap (fun h19 eh19 => ?_)
  replace Q := Q h19 eh19
  refine z_aload_n (pc := 92) (n := 1) dX3_copyFrom_92 rfl rfl ?_
  refine z_getR (pc := 93) (q2 := b1 + 14) (zo_Loans hb1) rfl inT3 (i := 4) (by decide) wf_X3_24 rfl (fun _ _ => rfl) dX3_copyFrom_93 ?_
  refine z_iconst (pc := 96) (a := 0) dX3_copyFrom_96 rfl ?_
  refine z_aload_n (pc := 97) (n := 0) dX3_copyFrom_97 rfl rfl ?_
  refine z_getR (pc := 98) (q2 := b + 14) (zo_Loans hb) rfl inT3 (i := 4) (by decide) wf_X3_24 rfl (fun _ _ => rfl) dX3_copyFrom_98 ?_
  refine z_iconst (pc := 101) (a := 0) dX3_copyFrom_101 rfl ?_
  refine z_aload_n (pc := 102) (n := 0) dX3_copyFrom_102 rfl rfl ?_
  refine z_getI (pc := 103) (zo_Loans hb) rfl inT3 (i := 5) (by decide) wf_X3_27 rfl (fun _ _ => rfl) dX3_copyFrom_103 ?_
  obtain ⟨c20, Q⟩ := Q
  obtain ⟨c21, Q⟩ := Q
  obtain ⟨c22, Q⟩ := Q
  refine z_copy (pc := 106) (za_parts hb1) (za_parts hb) wl_X3_37 wn_copy ws_copy wi_copy (by decide) (by decide) c20 c21 c22 (by omega) (by decide) dX3_copyFrom_106 ?_
  refine z_heap (fun h23 eh23 => ?_)
  replace Q := Q h23 eh23
  exact z_vret (pc := 109) rfl dX3_copyFrom_109 Q
set_option maxHeartbeats 4000000 in
set_option maxRecDepth 100000 in
theorem k_X3_countOf_0 {d : Nat} {Post : Option zA → zH → Prop} {Γ : zCx} {h : zH} {b : Nat} {a1 : Int} (hb : zSt b) (hd : 1 ≤ d) (Q :
 zV RX3 cX3_countOf 4 (some .int) d Post Γ 4 [(0, zR (b + 9)), (1, zI a1), (2, zI 0), (3, zI 0)] [] h) :
    zV RX3 cX3_countOf 4 (some .int) d Post Γ 0 [(0, zR (b + 9)), (1, zI a1)] [] h := by
  refine z_iconst (pc := 0) (a := 0) dX3_countOf_0 rfl ?_
  refine z_istore_n (pc := 1) (ls' := [(2, _), (0, _), (1, _)]) dX3_countOf_1 rfl (by decide) rfl ?_
  refine z_iconst (pc := 2) (a := 0) dX3_countOf_2 rfl ?_
  refine z_istore_n (pc := 3) (ls' := [(3, _), (2, _), (0, _), (1, _)]) dX3_countOf_3 rfl (by decide) rfl ?_
  exact z_sub (ks := [2, 3, 1, 0]) rfl Q
set_option maxHeartbeats 4000000 in
set_option maxRecDepth 100000 in
theorem k_X3_countOf_4 {d : Nat} {Post : Option zA → zH → Prop} {Γ : zCx} {h : zH} {b : Nat} {v1 : Int} {v2 : Int} {v3 : Int} (hb : zSt b) (hd : 1 ≤ d) (Q :
 (((h (b + 9) 5) ≤ v3 →
  Post (some (zI v2)) h) ∧
 (¬ (h (b + 9) 5) ≤ v3 →
  0 ≤ v3 ∧ v3 < 40 ∧
  ((¬ (h (b + 13) v3.toNat) = v1 →
   ∀ x3 : Int, x3 = zwr (v3 + 1) →
   zV RX3 cX3_countOf 4 (some .int) d Post Γ 4 [(0, zR (b + 9)), (1, zI v1), (2, zI v2), (3, zI x3)] [] h) ∧
  ((h (b + 13) v3.toNat) = v1 →
   ∀ x4 : Int, x4 = zwr (v2 + 1) →
   ∀ x5 : Int, x5 = zwr (v3 + 1) →
   zV RX3 cX3_countOf 4 (some .int) d Post Γ 4 [(0, zR (b + 9)), (1, zI v1), (2, zI x4), (3, zI x5)] [] h))))) :
    zV RX3 cX3_countOf 4 (some .int) d Post Γ 4 [(0, zR (b + 9)), (1, zI v1), (2, zI v2), (3, zI v3)] [] h := by
  refine z_iload_n (pc := 4) (n := 3) dX3_countOf_4 rfl rfl ?_
  refine z_aload_n (pc := 5) (n := 0) dX3_countOf_5 rfl rfl ?_
  refine z_getI (pc := 6) (zo_Loans hb) rfl inT3 (i := 5) (by decide) wf_X3_27 rfl (fun _ _ => rfl) dX3_countOf_6 ?_
  refine z_icmp_ge (pc := 9) (tgt := 31) dX3_countOf_9 (by decide) (fun c => ?_) (fun c => ?_)
  · replace Q := Q.1 c
    refine z_iload_n (pc := 31) (n := 2) dX3_countOf_31 rfl rfl ?_
    exact z_iret (pc := 32) rfl dX3_countOf_32 Q
  · replace Q := Q.2 c
    refine z_aload_n (pc := 12) (n := 0) dX3_countOf_12 rfl rfl ?_
    refine z_getR (pc := 13) (q2 := b + 13) (zo_Loans hb) rfl inT3 (i := 3) (by decide) wf_X3_21 rfl (fun _ _ => rfl) dX3_countOf_13 ?_
    refine z_iload_n (pc := 16) (n := 3) dX3_countOf_16 rfl rfl ?_
    obtain ⟨c1, c2, Q⟩ := Q
    refine z_iald (pc := 17) (za_lcell hb) c1 c2 dX3_countOf_17 ?_
    refine z_iload_n (pc := 18) (n := 1) dX3_countOf_18 rfl rfl ?_
    refine z_icmp_ne (pc := 19) (tgt := 25) dX3_countOf_19 (by decide) (fun c => ?_) (fun c => ?_)
    · replace Q := Q.1 c
      refine z_iincg (pc := 25) (n := 3) (lf := fun y => [(3, zI y), (0, _), (1, _), (2, _)]) dX3_countOf_25 rfl (by decide) (fun _ => rfl) (fun x3 ex3 => ?_)
      replace Q := Q x3 ex3
      refine z_goto (pc := 28) (tgt := 4) dX3_countOf_28 (by decide) ?_
      exact z_sub (ks := [1, 2, 3, 0]) rfl Q
    · replace Q := Q.2 c
      refine z_iincg (pc := 22) (n := 2) (lf := fun y => [(2, zI y), (0, _), (1, _), (3, _)]) dX3_countOf_22 rfl (by decide) (fun _ => rfl) (fun x4 ex4 => ?_)
      replace Q := Q x4 ex4
      refine z_iincg (pc := 25) (n := 3) (lf := fun y => [(3, zI y), (2, _), (0, _), (1, _)]) dX3_countOf_25 rfl (by decide) (fun _ => rfl) (fun x5 ex5 => ?_)
      replace Q := Q x5 ex5
      refine z_goto (pc := 28) (tgt := 4) dX3_countOf_28 (by decide) ?_
      exact z_sub (ks := [2, 3, 1, 0]) rfl Q
set_option maxHeartbeats 4000000 in
set_option maxRecDepth 100000 in
theorem k_X3_hasRoom_0 {d : Nat} {Post : Option zA → zH → Prop} {Γ : zCx} {h : zH} {b : Nat} (hb : zSt b) (hd : 1 ≤ d) (Q :
 ((40 ≤ (h (b + 9) 5) →
  Post (some (zI 0)) h) ∧
 (¬ 40 ≤ (h (b + 9) 5) →
  ((1000 ≤ (h (b + 9) 6) →
   Post (some (zI 0)) h) ∧
  (¬ 1000 ≤ (h (b + 9) 6) →
   Post (some (zI 1)) h))))) :
    zV RX3 cX3_hasRoom 1 (some .boolean) d Post Γ 0 [(0, zR (b + 9))] [] h := by
  refine z_aload_n (pc := 0) (n := 0) dX3_hasRoom_0 rfl rfl ?_
  refine z_getI (pc := 1) (zo_Loans hb) rfl inT3 (i := 5) (by decide) wf_X3_27 rfl (fun _ _ => rfl) dX3_hasRoom_1 ?_
  refine z_bipush (pc := 4) (a := 40) dX3_hasRoom_4 rfl ?_
  refine z_icmp_ge (pc := 6) (tgt := 23) dX3_hasRoom_6 (by decide) (fun c => ?_) (fun c => ?_)
  · replace Q := Q.1 c
    refine z_iconst (pc := 23) (a := 0) dX3_hasRoom_23 rfl ?_
    exact z_zret (pc := 24) rfl (by decide) dX3_hasRoom_24 Q
  · replace Q := Q.2 c
    refine z_aload_n (pc := 9) (n := 0) dX3_hasRoom_9 rfl rfl ?_
    refine z_getI (pc := 10) (zo_Loans hb) rfl inT3 (i := 6) (by decide) wf_X3_31 rfl (fun _ _ => rfl) dX3_hasRoom_10 ?_
    refine z_sipush (pc := 13) (a := 1000) dX3_hasRoom_13 rfl ?_
    refine z_icmp_ge (pc := 16) (tgt := 23) dX3_hasRoom_16 (by decide) (fun c => ?_) (fun c => ?_)
    · replace Q := Q.1 c
      refine z_iconst (pc := 23) (a := 0) dX3_hasRoom_23 rfl ?_
      exact z_zret (pc := 24) rfl (by decide) dX3_hasRoom_24 Q
    · replace Q := Q.2 c
      refine z_iconst (pc := 19) (a := 1) dX3_hasRoom_19 rfl ?_
      refine z_goto (pc := 20) (tgt := 24) dX3_hasRoom_20 (by decide) ?_
      exact z_zret (pc := 24) rfl (by decide) dX3_hasRoom_24 Q
set_option maxHeartbeats 4000000 in
set_option maxRecDepth 100000 in
theorem k_X3_latestAhead_0 {d : Nat} {Post : Option zA → zH → Prop} {Γ : zCx} {h : zH} {b : Nat} {a1 : Int} {a2 : Int} {a3 : Int} (hb : zSt b) (hd : 1 ≤ d) (Q :
 ∀ x1 : Int, x1 = (zwr ((h (b + 9) 5) - 1)) →
 zV RX3 cX3_latestAhead 5 (some .int) d Post Γ 8 [(0, zR (b + 9)), (1, zI a1), (2, zI a2), (3, zI a3), (4, zI x1)] [] h) :
    zV RX3 cX3_latestAhead 5 (some .int) d Post Γ 0 [(0, zR (b + 9)), (1, zI a1), (2, zI a2), (3, zI a3)] [] h := by
  refine z_aload_n (pc := 0) (n := 0) dX3_latestAhead_0 rfl rfl ?_
  refine z_getI (pc := 1) (zo_Loans hb) rfl inT3 (i := 5) (by decide) wf_X3_27 rfl (fun _ _ => rfl) dX3_latestAhead_1 ?_
  refine z_iconst (pc := 4) (a := 1) dX3_latestAhead_4 rfl ?_
  refine z_isub (pc := 5) dX3_latestAhead_5 ?_
  refine z_top (fun x1 ex1 => ?_)
  replace Q := Q x1 ex1
  refine z_istore (pc := 6) (ls' := [(4, _), (0, _), (1, _), (2, _), (3, _)]) dX3_latestAhead_6 (by decide) rfl ?_
  exact z_sub (ks := [1, 2, 3, 4, 0]) rfl Q
set_option maxHeartbeats 4000000 in
set_option maxRecDepth 100000 in
theorem k_X3_latestAhead_8 {d : Nat} {Post : Option zA → zH → Prop} {Γ : zCx} {h : zH} {b : Nat} {v1 : Int} {v2 : Int} {v3 : Int} {v4 : Int} (hb : zSt b) (hd : 1 ≤ d) (Q :
 ((v4 < 0 →
  Post (some (zI (-1))) h) ∧
 (¬ v4 < 0 →
  0 ≤ v4 ∧ v4 < 40 ∧
  ((v1 ≤ (h (b + 10) v4.toNat) →
   ∀ x3 : Int, x3 = zwr (v4 + (-1)) →
   zV RX3 cX3_latestAhead 5 (some .int) d Post Γ 8 [(0, zR (b + 9)), (1, zI v1), (2, zI v2), (3, zI v3), (4, zI x3)] [] h) ∧
  (¬ v1 ≤ (h (b + 10) v4.toNat) →
   0 ≤ v4 ∧ v4 < 40 ∧
   ((¬ (h (b + 11) v4.toNat) = v2 →
    ∀ x6 : Int, x6 = zwr (v4 + (-1)) →
    zV RX3 cX3_latestAhead 5 (some .int) d Post Γ 8 [(0, zR (b + 9)), (1, zI v1), (2, zI v2), (3, zI v3), (4, zI x6)] [] h) ∧
   ((h (b + 11) v4.toNat) = v2 →
    0 ≤ v4 ∧ v4 < 40 ∧
    ((¬ (h (b + 13) v4.toNat) = v3 →
     ∀ x9 : Int, x9 = zwr (v4 + (-1)) →
     zV RX3 cX3_latestAhead 5 (some .int) d Post Γ 8 [(0, zR (b + 9)), (1, zI v1), (2, zI v2), (3, zI v3), (4, zI x9)] [] h) ∧
    ((h (b + 13) v4.toNat) = v3 →
     0 ≤ v4 ∧ v4 < 40 ∧
     Post (some (zI (h (b + 10) v4.toNat))) h))))))))) :
    zV RX3 cX3_latestAhead 5 (some .int) d Post Γ 8 [(0, zR (b + 9)), (1, zI v1), (2, zI v2), (3, zI v3), (4, zI v4)] [] h := by
  refine z_iload (pc := 8) (n := 4) dX3_latestAhead_8 rfl ?_
  refine z_if_lt (pc := 10) (tgt := 60) dX3_latestAhead_10 (by decide) (fun c => ?_) (fun c => ?_)
  · replace Q := Q.1 c
    refine z_iconst (pc := 60) (a := -1) dX3_latestAhead_60 rfl ?_
    exact z_iret (pc := 61) rfl dX3_latestAhead_61 Q
  · replace Q := Q.2 c
    refine z_aload_n (pc := 13) (n := 0) dX3_latestAhead_13 rfl rfl ?_
    refine z_getR (pc := 14) (q2 := b + 10) (zo_Loans hb) rfl inT3 (i := 0) (by decide) wf_X3_9 rfl (fun _ _ => rfl) dX3_latestAhead_14 ?_
    refine z_iload (pc := 17) (n := 4) dX3_latestAhead_17 rfl ?_
    obtain ⟨c1, c2, Q⟩ := Q
    refine z_iald (pc := 19) (za_number hb) c1 c2 dX3_latestAhead_19 ?_
    refine z_iload_n (pc := 20) (n := 1) dX3_latestAhead_20 rfl rfl ?_
    refine z_icmp_ge (pc := 21) (tgt := 54) dX3_latestAhead_21 (by decide) (fun c => ?_) (fun c => ?_)
    · replace Q := Q.1 c
      refine z_iincg (pc := 54) (n := 4) (lf := fun y => [(4, zI y), (0, _), (1, _), (2, _), (3, _)]) dX3_latestAhead_54 rfl (by decide) (fun _ => rfl) (fun x3 ex3 => ?_)
      replace Q := Q x3 ex3
      refine z_goto (pc := 57) (tgt := 8) dX3_latestAhead_57 (by decide) ?_
      exact z_sub (ks := [1, 2, 3, 4, 0]) rfl Q
    · replace Q := Q.2 c
      refine z_aload_n (pc := 24) (n := 0) dX3_latestAhead_24 rfl rfl ?_
      refine z_getR (pc := 25) (q2 := b + 11) (zo_Loans hb) rfl inT3 (i := 1) (by decide) wf_X3_15 rfl (fun _ _ => rfl) dX3_latestAhead_25 ?_
      refine z_iload (pc := 28) (n := 4) dX3_latestAhead_28 rfl ?_
      obtain ⟨c4, c5, Q⟩ := Q
      refine z_iald (pc := 30) (za_lender hb) c4 c5 dX3_latestAhead_30 ?_
      refine z_iload_n (pc := 31) (n := 2) dX3_latestAhead_31 rfl rfl ?_
      refine z_icmp_ne (pc := 32) (tgt := 54) dX3_latestAhead_32 (by decide) (fun c => ?_) (fun c => ?_)
      · replace Q := Q.1 c
        refine z_iincg (pc := 54) (n := 4) (lf := fun y => [(4, zI y), (0, _), (1, _), (2, _), (3, _)]) dX3_latestAhead_54 rfl (by decide) (fun _ => rfl) (fun x6 ex6 => ?_)
        replace Q := Q x6 ex6
        refine z_goto (pc := 57) (tgt := 8) dX3_latestAhead_57 (by decide) ?_
        exact z_sub (ks := [1, 2, 3, 4, 0]) rfl Q
      · replace Q := Q.2 c
        refine z_aload_n (pc := 35) (n := 0) dX3_latestAhead_35 rfl rfl ?_
        refine z_getR (pc := 36) (q2 := b + 13) (zo_Loans hb) rfl inT3 (i := 3) (by decide) wf_X3_21 rfl (fun _ _ => rfl) dX3_latestAhead_36 ?_
        refine z_iload (pc := 39) (n := 4) dX3_latestAhead_39 rfl ?_
        obtain ⟨c7, c8, Q⟩ := Q
        refine z_iald (pc := 41) (za_lcell hb) c7 c8 dX3_latestAhead_41 ?_
        refine z_iload_n (pc := 42) (n := 3) dX3_latestAhead_42 rfl rfl ?_
        refine z_icmp_ne (pc := 43) (tgt := 54) dX3_latestAhead_43 (by decide) (fun c => ?_) (fun c => ?_)
        · replace Q := Q.1 c
          refine z_iincg (pc := 54) (n := 4) (lf := fun y => [(4, zI y), (0, _), (1, _), (2, _), (3, _)]) dX3_latestAhead_54 rfl (by decide) (fun _ => rfl) (fun x9 ex9 => ?_)
          replace Q := Q x9 ex9
          refine z_goto (pc := 57) (tgt := 8) dX3_latestAhead_57 (by decide) ?_
          exact z_sub (ks := [1, 2, 3, 4, 0]) rfl Q
        · replace Q := Q.2 c
          refine z_aload_n (pc := 46) (n := 0) dX3_latestAhead_46 rfl rfl ?_
          refine z_getR (pc := 47) (q2 := b + 10) (zo_Loans hb) rfl inT3 (i := 0) (by decide) wf_X3_9 rfl (fun _ _ => rfl) dX3_latestAhead_47 ?_
          refine z_iload (pc := 50) (n := 4) dX3_latestAhead_50 rfl ?_
          obtain ⟨c10, c11, Q⟩ := Q
          refine z_iald (pc := 52) (za_number hb) c10 c11 dX3_latestAhead_52 ?_
          exact z_iret (pc := 53) rfl dX3_latestAhead_53 Q
set_option maxHeartbeats 4000000 in
set_option maxRecDepth 100000 in
theorem k_X3_linksOf_0 {d : Nat} {Post : Option zA → zH → Prop} {Γ : zCx} {h : zH} {b : Nat} {a1 : Int} (hb : zSt b) (hd : 1 ≤ d) (Q :
 zV RX3 cX3_linksOf 5 (some .long) d Post Γ 5 [(0, zR (b + 9)), (1, zI a1), (2, zL 0), (4, zI 0)] [] h) :
    zV RX3 cX3_linksOf 5 (some .long) d Post Γ 0 [(0, zR (b + 9)), (1, zI a1)] [] h := by
  refine z_lconst (pc := 0) (x := 0) dX3_linksOf_0 rfl ?_
  refine z_lstore_n (pc := 1) (ls' := [(2, _), (0, _), (1, _)]) dX3_linksOf_1 rfl (by decide) rfl ?_
  refine z_iconst (pc := 2) (a := 0) dX3_linksOf_2 rfl ?_
  refine z_istore (pc := 3) (ls' := [(4, _), (2, _), (0, _), (1, _)]) dX3_linksOf_3 (by decide) rfl ?_
  exact z_sub (ks := [2, 3, 1, 0]) rfl Q
set_option maxHeartbeats 4000000 in
set_option maxRecDepth 100000 in
theorem k_X3_linksOf_5 {d : Nat} {Post : Option zA → zH → Prop} {Γ : zCx} {h : zH} {b : Nat} {v1 : Int} {v2 : Int64} {v4 : Int} (hb : zSt b) (hd : 1 ≤ d) (Q :
 (((h (b + 9) 5) ≤ v4 →
  Post (some (zL v2)) h) ∧
 (¬ (h (b + 9) 5) ≤ v4 →
  0 ≤ v4 ∧ v4 < 40 ∧
  ((¬ (h (b + 13) v4.toNat) = v1 →
   ∀ x3 : Int, x3 = zwr (v4 + 1) →
   zV RX3 cX3_linksOf 5 (some .long) d Post Γ 5 [(0, zR (b + 9)), (1, zI v1), (2, zL v2), (4, zI x3)] [] h) ∧
  ((h (b + 13) v4.toNat) = v1 →
   0 ≤ v4 ∧ v4 < 40 ∧
   0 ≤ v4 ∧ v4 < 40 ∧
   ∀ y8 : Int64, y8 = (v2 ||| (zlshl 1 (zwr ((zwr ((h (b + 11) v4.toNat) * 6)) + (h (b + 12) v4.toNat))))) →
   ∀ x9 : Int, x9 = zwr (v4 + 1) →
   zV RX3 cX3_linksOf 5 (some .long) d Post Γ 5 [(0, zR (b + 9)), (1, zI v1), (2, zL y8), (4, zI x9)] [] h))))) :
    zV RX3 cX3_linksOf 5 (some .long) d Post Γ 5 [(0, zR (b + 9)), (1, zI v1), (2, zL v2), (4, zI v4)] [] h := by
  refine z_iload (pc := 5) (n := 3) dX3_linksOf_5 rfl ?_
  refine z_aload_n (pc := 7) (n := 0) dX3_linksOf_7 rfl rfl ?_
  refine z_getI (pc := 8) (zo_Loans hb) rfl inT3 (i := 5) (by decide) wf_X3_27 rfl (fun _ _ => rfl) dX3_linksOf_8 ?_
  refine z_icmp_ge (pc := 11) (tgt := 54) dX3_linksOf_11 (by decide) (fun c => ?_) (fun c => ?_)
  · replace Q := Q.1 c
    refine z_lload_n (pc := 54) (n := 2) dX3_linksOf_54 rfl rfl ?_
    exact z_lret (pc := 55) rfl dX3_linksOf_55 Q
  · replace Q := Q.2 c
    refine z_aload_n (pc := 14) (n := 0) dX3_linksOf_14 rfl rfl ?_
    refine z_getR (pc := 15) (q2 := b + 13) (zo_Loans hb) rfl inT3 (i := 3) (by decide) wf_X3_21 rfl (fun _ _ => rfl) dX3_linksOf_15 ?_
    refine z_iload (pc := 18) (n := 3) dX3_linksOf_18 rfl ?_
    obtain ⟨c1, c2, Q⟩ := Q
    refine z_iald (pc := 20) (za_lcell hb) c1 c2 dX3_linksOf_20 ?_
    refine z_iload_n (pc := 21) (n := 1) dX3_linksOf_21 rfl rfl ?_
    refine z_icmp_ne (pc := 22) (tgt := 48) dX3_linksOf_22 (by decide) (fun c => ?_) (fun c => ?_)
    · replace Q := Q.1 c
      refine z_iincg (pc := 48) (n := 3) (lf := fun y => [(4, zI y), (0, _), (1, _), (2, _)]) dX3_linksOf_48 rfl (by decide) (fun _ => rfl) (fun x3 ex3 => ?_)
      replace Q := Q x3 ex3
      refine z_goto (pc := 51) (tgt := 5) dX3_linksOf_51 (by decide) ?_
      exact z_sub (ks := [1, 2, 3, 0]) rfl Q
    · replace Q := Q.2 c
      refine z_lload_n (pc := 25) (n := 2) dX3_linksOf_25 rfl rfl ?_
      refine z_lconst (pc := 26) (x := 1) dX3_linksOf_26 rfl ?_
      refine z_aload_n (pc := 27) (n := 0) dX3_linksOf_27 rfl rfl ?_
      refine z_getR (pc := 28) (q2 := b + 11) (zo_Loans hb) rfl inT3 (i := 1) (by decide) wf_X3_15 rfl (fun _ _ => rfl) dX3_linksOf_28 ?_
      refine z_iload (pc := 31) (n := 3) dX3_linksOf_31 rfl ?_
      obtain ⟨c4, c5, Q⟩ := Q
      refine z_iald (pc := 33) (za_lender hb) c4 c5 dX3_linksOf_33 ?_
      refine z_bipush (pc := 34) (a := 6) dX3_linksOf_34 rfl ?_
      refine z_imul (pc := 36) dX3_linksOf_36 ?_
      refine z_aload_n (pc := 37) (n := 0) dX3_linksOf_37 rfl rfl ?_
      refine z_getR (pc := 38) (q2 := b + 12) (zo_Loans hb) rfl inT3 (i := 2) (by decide) wf_X3_18 rfl (fun _ _ => rfl) dX3_linksOf_38 ?_
      refine z_iload (pc := 41) (n := 3) dX3_linksOf_41 rfl ?_
      obtain ⟨c6, c7, Q⟩ := Q
      refine z_iald (pc := 43) (za_borrower hb) c6 c7 dX3_linksOf_43 ?_
      refine z_iadd (pc := 44) dX3_linksOf_44 ?_
      refine z_lshl (pc := 45) dX3_linksOf_45 ?_
      refine z_lor (pc := 46) dX3_linksOf_46 ?_
      refine z_topl (fun y8 ey8 => ?_)
      replace Q := Q y8 ey8
      refine z_lstore_n (pc := 47) (ls' := [(2, _), (0, _), (1, _), (4, _)]) dX3_linksOf_47 rfl (by decide) rfl ?_
      refine z_iincg (pc := 48) (n := 3) (lf := fun y => [(4, zI y), (2, _), (0, _), (1, _)]) dX3_linksOf_48 rfl (by decide) (fun _ => rfl) (fun x9 ex9 => ?_)
      replace Q := Q x9 ex9
      refine z_goto (pc := 51) (tgt := 5) dX3_linksOf_51 (by decide) ?_
      exact z_sub (ks := [2, 3, 1, 0]) rfl Q
set_option maxHeartbeats 4000000 in
set_option maxRecDepth 100000 in
theorem k_X3_longestChain_0 {d : Nat} {Post : Option zA → zH → Prop} {Γ : zCx} {h : zH} {b : Nat} {a1 : Int} (hb : zSt b) (hd : 1 ≤ d) (Q :
 ∃ (d1 : Nat) (P2 : Option zA → zH → Prop), d1 + 1 ≤ d ∧ zSp d1 mX3_linksOf [zR (b + 9), zI a1] h P2 ∧ ∀ r3 h4, P2 r3 h4 →
 ∃ y7 : Int64, r3 = some (zL y7) ∧
 zV RX3 cX3_longestChain 6 (some .int) d Post Γ 12 [(0, zR (b + 9)), (1, zI a1), (2, zL y7), (4, zI 0), (5, zI 0)] [] h4) :
    zV RX3 cX3_longestChain 6 (some .int) d Post Γ 0 [(0, zR (b + 9)), (1, zI a1)] [] h := by
  refine z_aload_n (pc := 0) (n := 0) dX3_longestChain_0 rfl rfl ?_
  refine z_iload_n (pc := 1) (n := 1) dX3_longestChain_1 rfl rfl ?_
  obtain ⟨d1, P2, e5, s6, Q⟩ := Q
  refine z_callV (pc := 2) (M := mX3_linksOf) (as := [_]) (st := []) s6 (zo_Loans hb) rfl wi_X3_linksOf wm_X3_linksOf ⟨by omega, by decide⟩ wl_X3_47 dX3_longestChain_2 rfl (Nat.le_of_ble_eq_true rfl) rfl ?_
  intro r3 h4 s6
  obtain ⟨y7, rfl, Q⟩ := Q _ _ s6
  refine z_lstore_n (pc := 5) (ls' := [(2, _), (0, _), (1, _)]) dX3_longestChain_5 rfl (by decide) rfl ?_
  refine z_iconst (pc := 6) (a := 0) dX3_longestChain_6 rfl ?_
  refine z_istore (pc := 7) (ls' := [(4, _), (2, _), (0, _), (1, _)]) dX3_longestChain_7 (by decide) rfl ?_
  refine z_iconst (pc := 9) (a := 0) dX3_longestChain_9 rfl ?_
  refine z_istore (pc := 10) (ls' := [(5, _), (4, _), (2, _), (0, _), (1, _)]) dX3_longestChain_10 (by decide) rfl ?_
  exact z_sub (ks := [3, 4, 2, 1, 0]) rfl Q
set_option maxHeartbeats 4000000 in
set_option maxRecDepth 100000 in
theorem k_X3_longestChain_12 {d : Nat} {Post : Option zA → zH → Prop} {Γ : zCx} {h : zH} {b : Nat} {v1 : Int} {v2 : Int64} {v4 : Int} {v5 : Int} (hb : zSt b) (hd : 1 ≤ d) (Q :
 ((6 ≤ v5 →
  Post (some (zI v4)) h) ∧
 (¬ 6 ≤ v5 →
  ∃ (d1 : Nat) (P2 : Option zA → zH → Prop), d1 + 1 ≤ d ∧ zSp d1 mX3_longestFrom [zL v2, zI v5, zI (zshl 1 v5), zI 1] h P2 ∧ ∀ r3 h4, P2 r3 h4 →
  ∃ x7 : Int, r3 = some (zI x7) ∧
  ∀ x8 : Int, x8 = (if v4 < x7 then x7 else v4) →
  ∀ x9 : Int, x9 = zwr (v5 + 1) →
  zV RX3 cX3_longestChain 6 (some .int) d Post Γ 12 [(0, zR (b + 9)), (1, zI v1), (2, zL v2), (4, zI x8), (5, zI x9)] [] h4))) :
    zV RX3 cX3_longestChain 6 (some .int) d Post Γ 12 [(0, zR (b + 9)), (1, zI v1), (2, zL v2), (4, zI v4), (5, zI v5)] [] h := by
  refine z_iload (pc := 12) (n := 4) dX3_longestChain_12 rfl ?_
  refine z_bipush (pc := 14) (a := 6) dX3_longestChain_14 rfl ?_
  refine z_icmp_ge (pc := 16) (tgt := 43) dX3_longestChain_16 (by decide) (fun c => ?_) (fun c => ?_)
  · replace Q := Q.1 c
    refine z_iload (pc := 43) (n := 3) dX3_longestChain_43 rfl ?_
    exact z_iret (pc := 45) rfl dX3_longestChain_45 Q
  · replace Q := Q.2 c
    refine z_iload (pc := 19) (n := 3) dX3_longestChain_19 rfl ?_
    refine z_lload_n (pc := 21) (n := 2) dX3_longestChain_21 rfl rfl ?_
    refine z_iload (pc := 22) (n := 4) dX3_longestChain_22 rfl ?_
    refine z_iconst (pc := 24) (a := 1) dX3_longestChain_24 rfl ?_
    refine z_iload (pc := 25) (n := 4) dX3_longestChain_25 rfl ?_
    refine z_ishl (pc := 27) dX3_longestChain_27 ?_
    refine z_iconst (pc := 28) (a := 1) dX3_longestChain_28 rfl ?_
    obtain ⟨d1, P2, e5, s6, Q⟩ := Q
    refine z_callS (pc := 29) (M := mX3_longestFrom) (as := [_, _, _, _]) (st := [_]) s6 wt_X3_longestFrom wm_X3_longestFrom ⟨by omega, by decide⟩ wl_X3_51 dX3_longestChain_29 rfl (Nat.le_of_ble_eq_true rfl) rfl ?_
    intro r3 h4 s6
    obtain ⟨x7, rfl, Q⟩ := Q _ _ s6
    refine z_max (pc := 32) wl_X3_55 (by omega) (Nat.le_of_ble_eq_true rfl) dX3_longestChain_32 ?_
    refine z_top (fun x8 ex8 => ?_)
    replace Q := Q x8 ex8
    refine z_istore (pc := 35) (ls' := [(4, _), (0, _), (1, _), (2, _), (5, _)]) dX3_longestChain_35 (by decide) rfl ?_
    refine z_iincg (pc := 37) (n := 4) (lf := fun y => [(5, zI y), (4, _), (0, _), (1, _), (2, _)]) dX3_longestChain_37 rfl (by decide) (fun _ => rfl) (fun x9 ex9 => ?_)
    replace Q := Q x9 ex9
    refine z_goto (pc := 40) (tgt := 12) dX3_longestChain_40 (by decide) ?_
    exact z_sub (ks := [2, 3, 4, 1, 0]) rfl Q
set_option maxHeartbeats 4000000 in
set_option maxRecDepth 100000 in
theorem k_X3_longestFrom_0 {d : Nat} {Post : Option zA → zH → Prop} {Γ : zCx} {h : zH} {a1 : Int64} {a2 : Int} {a3 : Int} {a4 : Int}  (hd : 1 ≤ d) (Q :
 ((a4 < 6 →
  zV RX3 cX3_longestFrom 9 (some .int) d Post Γ 15 [(0, zL a1), (2, zI a2), (3, zI a3), (4, zI a4), (5, zI 0), (6, zI 0)] [] h) ∧
 (¬ a4 < 6 →
  Post (some (zI 0)) h))) :
    zV RX3 cX3_longestFrom 9 (some .int) d Post Γ 0 [(0, zL a1), (2, zI a2), (3, zI a3), (4, zI a4)] [] h := by
  refine z_iload (pc := 0) (n := 3) dX3_longestFrom_0 rfl ?_
  refine z_bipush (pc := 2) (a := 6) dX3_longestFrom_2 rfl ?_
  refine z_icmp_lt (pc := 4) (tgt := 9) dX3_longestFrom_4 (by decide) (fun c => ?_) (fun c => ?_)
  · replace Q := Q.1 c
    refine z_iconst (pc := 9) (a := 0) dX3_longestFrom_9 rfl ?_
    refine z_istore (pc := 10) (ls' := [(5, _), (0, _), (2, _), (3, _), (4, _)]) dX3_longestFrom_10 (by decide) rfl ?_
    refine z_iconst (pc := 12) (a := 0) dX3_longestFrom_12 rfl ?_
    refine z_istore (pc := 13) (ls' := [(6, _), (5, _), (0, _), (2, _), (3, _), (4, _)]) dX3_longestFrom_13 (by decide) rfl ?_
    exact z_sub (ks := [2, 3, 4, 5, 1, 0]) rfl Q
  · replace Q := Q.2 c
    refine z_iconst (pc := 7) (a := 0) dX3_longestFrom_7 rfl ?_
    exact z_iret (pc := 8) rfl dX3_longestFrom_8 Q
set_option maxHeartbeats 4000000 in
set_option maxRecDepth 100000 in
theorem k_X3_longestFrom_15 {d : Nat} {Post : Option zA → zH → Prop} {Γ : zCx} {h : zH} {v0 : Int64} {v2 : Int} {v3 : Int} {v4 : Int} {v5 : Int} {v6 : Int}  (hd : 1 ≤ d) (Q :
 ((6 ≤ v6 →
  Post (some (zI v5)) h) ∧
 (¬ 6 ≤ v6 →
  ((((lg_cmp ((zlshr v0 (zwr ((zwr (v2 * 6)) + v6))) &&& 1) 0).toInt) = 0 →
   zV RX3 cX3_longestFrom 9 (some .int) d Post Γ 43 [(0, zL v0), (2, zI v2), (3, zI v3), (4, zI v4), (5, zI v5), (6, zI v6)] [zI 0] h) ∧
  (¬ ((lg_cmp ((zlshr v0 (zwr ((zwr (v2 * 6)) + v6))) &&& 1) 0).toInt) = 0 →
   zV RX3 cX3_longestFrom 9 (some .int) d Post Γ 43 [(0, zL v0), (2, zI v2), (3, zI v3), (4, zI v4), (5, zI v5), (6, zI v6)] [zI 1] h))))) :
    zV RX3 cX3_longestFrom 9 (some .int) d Post Γ 15 [(0, zL v0), (2, zI v2), (3, zI v3), (4, zI v4), (5, zI v5), (6, zI v6)] [] h := by
  refine z_iload (pc := 15) (n := 5) dX3_longestFrom_15 rfl ?_
  refine z_bipush (pc := 17) (a := 6) dX3_longestFrom_17 rfl ?_
  refine z_icmp_ge (pc := 19) (tgt := 102) dX3_longestFrom_19 (by decide) (fun c => ?_) (fun c => ?_)
  · replace Q := Q.1 c
    refine z_iload (pc := 102) (n := 4) dX3_longestFrom_102 rfl ?_
    exact z_iret (pc := 104) rfl dX3_longestFrom_104 Q
  · replace Q := Q.2 c
    refine z_lload_n (pc := 22) (n := 0) dX3_longestFrom_22 rfl rfl ?_
    refine z_iload_n (pc := 23) (n := 1) dX3_longestFrom_23 rfl rfl ?_
    refine z_bipush (pc := 24) (a := 6) dX3_longestFrom_24 rfl ?_
    refine z_imul (pc := 26) dX3_longestFrom_26 ?_
    refine z_iload (pc := 27) (n := 5) dX3_longestFrom_27 rfl ?_
    refine z_iadd (pc := 29) dX3_longestFrom_29 ?_
    refine z_lshr (pc := 30) dX3_longestFrom_30 ?_
    refine z_lconst (pc := 31) (x := 1) dX3_longestFrom_31 rfl ?_
    refine z_land (pc := 32) dX3_longestFrom_32 ?_
    refine z_lconst (pc := 33) (x := 0) dX3_longestFrom_33 rfl ?_
    refine z_lcmp (pc := 34) dX3_longestFrom_34 ?_
    refine z_if_eq (pc := 35) (tgt := 42) dX3_longestFrom_35 (by decide) (fun c => ?_) (fun c => ?_)
    · replace Q := Q.1 c
      refine z_iconst (pc := 42) (a := 0) dX3_longestFrom_42 rfl ?_
      exact z_sub (ks := [0, 1, 2, 3, 4, 5]) rfl Q
    · replace Q := Q.2 c
      refine z_iconst (pc := 38) (a := 1) dX3_longestFrom_38 rfl ?_
      refine z_goto (pc := 39) (tgt := 43) dX3_longestFrom_39 (by decide) ?_
      exact z_sub (ks := [0, 1, 2, 3, 4, 5]) rfl Q
set_option maxHeartbeats 4000000 in
set_option maxRecDepth 100000 in
theorem k_X3_longestFrom_43 {d : Nat} {Post : Option zA → zH → Prop} {Γ : zCx} {h : zH} {v0 : Int64} {v2 : Int} {v3 : Int} {v4 : Int} {v5 : Int} {v6 : Int} {w0 : Int}  (hd : 1 ≤ d) (Q :
 (((zand (zshr v3 v6) 1) = 0 →
  zV RX3 cX3_longestFrom 9 (some .int) d Post Γ 59 [(0, zL v0), (2, zI v2), (3, zI v3), (4, zI v4), (5, zI v5), (6, zI v6), (7, zI w0)] [zI 0] h) ∧
 (¬ (zand (zshr v3 v6) 1) = 0 →
  zV RX3 cX3_longestFrom 9 (some .int) d Post Γ 59 [(0, zL v0), (2, zI v2), (3, zI v3), (4, zI v4), (5, zI v5), (6, zI v6), (7, zI w0)] [zI 1] h))) :
    zV RX3 cX3_longestFrom 9 (some .int) d Post Γ 43 [(0, zL v0), (2, zI v2), (3, zI v3), (4, zI v4), (5, zI v5), (6, zI v6)] [zI w0] h := by
  refine z_istore (pc := 43) (ls' := [(7, _), (0, _), (2, _), (3, _), (4, _), (5, _), (6, _)]) dX3_longestFrom_43 (by decide) rfl ?_
  refine z_iload_n (pc := 45) (n := 3) dX3_longestFrom_45 rfl rfl ?_
  refine z_iload (pc := 46) (n := 6) dX3_longestFrom_46 rfl ?_
  refine z_ishr (pc := 48) dX3_longestFrom_48 ?_
  refine z_iconst (pc := 49) (a := 1) dX3_longestFrom_49 rfl ?_
  refine z_iand (pc := 50) dX3_longestFrom_50 ?_
  refine z_if_eq (pc := 51) (tgt := 58) dX3_longestFrom_51 (by decide) (fun c => ?_) (fun c => ?_)
  · replace Q := Q.1 c
    refine z_iconst (pc := 58) (a := 0) dX3_longestFrom_58 rfl ?_
    exact z_sub (ks := [1, 2, 3, 4, 5, 6, 0]) rfl Q
  · replace Q := Q.2 c
    refine z_iconst (pc := 54) (a := 1) dX3_longestFrom_54 rfl ?_
    refine z_goto (pc := 55) (tgt := 59) dX3_longestFrom_55 (by decide) ?_
    exact z_sub (ks := [1, 2, 3, 4, 5, 6, 0]) rfl Q
set_option maxHeartbeats 4000000 in
set_option maxRecDepth 100000 in
theorem k_X3_longestFrom_59 {d : Nat} {Post : Option zA → zH → Prop} {Γ : zCx} {h : zH} {v0 : Int64} {v2 : Int} {v3 : Int} {v4 : Int} {v5 : Int} {v6 : Int} {v7 : Int} {w0 : Int}  (hd : 1 ≤ d) (Q :
 ((v7 = 0 →
  ∀ x1 : Int, x1 = zwr (v6 + 1) →
  zV RX3 cX3_longestFrom 9 (some .int) d Post Γ 15 [(0, zL v0), (2, zI v2), (3, zI v3), (4, zI v4), (5, zI v5), (6, zI x1)] [] h) ∧
 (¬ v7 = 0 →
  ((¬ w0 = 0 →
   ∀ x2 : Int, x2 = zwr (v6 + 1) →
   zV RX3 cX3_longestFrom 9 (some .int) d Post Γ 15 [(0, zL v0), (2, zI v2), (3, zI v3), (4, zI v4), (5, zI v5), (6, zI x2)] [] h) ∧
  (w0 = 0 →
   ∃ (d3 : Nat) (P4 : Option zA → zH → Prop), d3 + 1 ≤ d ∧ zSp d3 mX3_longestFrom [zL v0, zI v6, zI (zor v3 (zshl 1 v6)), zI (zwr (v4 + 1))] h P4 ∧ ∀ r5 h6, P4 r5 h6 →
   ∃ x9 : Int, r5 = some (zI x9) ∧
   ∀ x10 : Int, x10 = (if v5 < (zwr (1 + x9)) then (zwr (1 + x9)) else v5) →
   ∀ x11 : Int, x11 = zwr (v6 + 1) →
   zV RX3 cX3_longestFrom 9 (some .int) d Post Γ 15 [(0, zL v0), (2, zI v2), (3, zI v3), (4, zI v4), (5, zI x10), (6, zI x11)] [] h6))))) :
    zV RX3 cX3_longestFrom 9 (some .int) d Post Γ 59 [(0, zL v0), (2, zI v2), (3, zI v3), (4, zI v4), (5, zI v5), (6, zI v6), (7, zI v7)] [zI w0] h := by
  refine z_istore (pc := 59) (ls' := [(8, _), (0, _), (2, _), (3, _), (4, _), (5, _), (6, _), (7, _)]) dX3_longestFrom_59 (by decide) rfl ?_
  refine z_iload (pc := 61) (n := 7) dX3_longestFrom_61 rfl ?_
  refine z_if_eq (pc := 63) (tgt := 96) dX3_longestFrom_63 (by decide) (fun c => ?_) (fun c => ?_)
  · replace Q := Q.1 c
    refine z_iincg (pc := 96) (n := 6) (lf := fun y => [(6, zI y), (8, _), (0, _), (2, _), (3, _), (4, _), (5, _), (7, _)]) dX3_longestFrom_96 rfl (by decide) (fun _ => rfl) (fun x1 ex1 => ?_)
    replace Q := Q x1 ex1
    refine z_goto (pc := 99) (tgt := 15) dX3_longestFrom_99 (by decide) ?_
    exact z_sub (ks := [2, 3, 4, 5, 6, 0]) rfl Q
  · replace Q := Q.2 c
    refine z_iload (pc := 66) (n := 0) dX3_longestFrom_66 rfl ?_
    refine z_if_ne (pc := 68) (tgt := 96) dX3_longestFrom_68 (by decide) (fun c => ?_) (fun c => ?_)
    · replace Q := Q.1 c
      refine z_iincg (pc := 96) (n := 6) (lf := fun y => [(6, zI y), (8, _), (0, _), (2, _), (3, _), (4, _), (5, _), (7, _)]) dX3_longestFrom_96 rfl (by decide) (fun _ => rfl) (fun x2 ex2 => ?_)
      replace Q := Q x2 ex2
      refine z_goto (pc := 99) (tgt := 15) dX3_longestFrom_99 (by decide) ?_
      exact z_sub (ks := [2, 3, 4, 5, 6, 0]) rfl Q
    · replace Q := Q.2 c
      refine z_iload (pc := 71) (n := 5) dX3_longestFrom_71 rfl ?_
      refine z_iconst (pc := 73) (a := 1) dX3_longestFrom_73 rfl ?_
      refine z_lload_n (pc := 74) (n := 1) dX3_longestFrom_74 rfl rfl ?_
      refine z_iload (pc := 75) (n := 6) dX3_longestFrom_75 rfl ?_
      refine z_iload_n (pc := 77) (n := 3) dX3_longestFrom_77 rfl rfl ?_
      refine z_iconst (pc := 78) (a := 1) dX3_longestFrom_78 rfl ?_
      refine z_iload (pc := 79) (n := 6) dX3_longestFrom_79 rfl ?_
      refine z_ishl (pc := 81) dX3_longestFrom_81 ?_
      refine z_ior (pc := 82) dX3_longestFrom_82 ?_
      refine z_iload (pc := 83) (n := 4) dX3_longestFrom_83 rfl ?_
      refine z_iconst (pc := 85) (a := 1) dX3_longestFrom_85 rfl ?_
      refine z_iadd (pc := 86) dX3_longestFrom_86 ?_
      obtain ⟨d3, P4, e7, s8, Q⟩ := Q
      refine z_callS (pc := 87) (M := mX3_longestFrom) (as := [_, _, _, _]) (st := [_, _]) s8 wt_X3_longestFrom wm_X3_longestFrom ⟨by omega, by decide⟩ wl_X3_51 dX3_longestFrom_87 rfl (Nat.le_of_ble_eq_true rfl) rfl ?_
      intro r5 h6 s8
      obtain ⟨x9, rfl, Q⟩ := Q _ _ s8
      refine z_iadd (pc := 90) dX3_longestFrom_90 ?_
      refine z_max (pc := 91) wl_X3_55 (by omega) (Nat.le_of_ble_eq_true rfl) dX3_longestFrom_91 ?_
      refine z_top (fun x10 ex10 => ?_)
      replace Q := Q x10 ex10
      refine z_istore (pc := 94) (ls' := [(5, _), (8, _), (0, _), (2, _), (3, _), (4, _), (6, _), (7, _)]) dX3_longestFrom_94 (by decide) rfl ?_
      refine z_iincg (pc := 96) (n := 6) (lf := fun y => [(6, zI y), (5, _), (8, _), (0, _), (2, _), (3, _), (4, _), (7, _)]) dX3_longestFrom_96 rfl (by decide) (fun _ => rfl) (fun x11 ex11 => ?_)
      replace Q := Q x11 ex11
      refine z_goto (pc := 99) (tgt := 15) dX3_longestFrom_99 (by decide) ?_
      exact z_sub (ks := [3, 4, 5, 6, 1, 0]) rfl Q
set_option maxHeartbeats 4000000 in
set_option maxRecDepth 100000 in
theorem k_X3_partsBorrowed_0 {d : Nat} {Post : Option zA → zH → Prop} {Γ : zCx} {h : zH} {b : Nat} {a1 : Int} {a2 : Int} (hb : zSt b) (hd : 1 ≤ d) (Q :
 ∃ (d1 : Nat) (P2 : Option zA → zH → Prop), d1 + 1 ≤ d ∧ zSp d1 mX3_sumParts [zR (b + 9), zR (b + 12), zI a1, zI a2] h P2 ∧ ∀ r3 h4, P2 r3 h4 →
 ∃ x7 : Int, r3 = some (zI x7) ∧
 Post (some (zI x7)) h4) :
    zV RX3 cX3_partsBorrowed 3 (some .int) d Post Γ 0 [(0, zR (b + 9)), (1, zI a1), (2, zI a2)] [] h := by
  refine z_aload_n (pc := 0) (n := 0) dX3_partsBorrowed_0 rfl rfl ?_
  refine z_aload_n (pc := 1) (n := 0) dX3_partsBorrowed_1 rfl rfl ?_
  refine z_getR (pc := 2) (q2 := b + 12) (zo_Loans hb) rfl inT3 (i := 2) (by decide) wf_X3_18 rfl (fun _ _ => rfl) dX3_partsBorrowed_2 ?_
  refine z_iload_n (pc := 5) (n := 1) dX3_partsBorrowed_5 rfl rfl ?_
  refine z_iload_n (pc := 6) (n := 2) dX3_partsBorrowed_6 rfl rfl ?_
  obtain ⟨d1, P2, e5, s6, Q⟩ := Q
  refine z_callV (pc := 7) (M := mX3_sumParts) (as := [_, _, _]) (st := []) s6 (zo_Loans hb) rfl wi_X3_sumParts wm_X3_sumParts ⟨by omega, by decide⟩ wl_X3_43 dX3_partsBorrowed_7 rfl (Nat.le_of_ble_eq_true rfl) rfl ?_
  intro r3 h4 s6
  obtain ⟨x7, rfl, Q⟩ := Q _ _ s6
  exact z_iret (pc := 10) rfl dX3_partsBorrowed_10 Q
set_option maxHeartbeats 4000000 in
set_option maxRecDepth 100000 in
theorem k_X3_partsLent_0 {d : Nat} {Post : Option zA → zH → Prop} {Γ : zCx} {h : zH} {b : Nat} {a1 : Int} {a2 : Int} (hb : zSt b) (hd : 1 ≤ d) (Q :
 ∃ (d1 : Nat) (P2 : Option zA → zH → Prop), d1 + 1 ≤ d ∧ zSp d1 mX3_sumParts [zR (b + 9), zR (b + 11), zI a1, zI a2] h P2 ∧ ∀ r3 h4, P2 r3 h4 →
 ∃ x7 : Int, r3 = some (zI x7) ∧
 Post (some (zI x7)) h4) :
    zV RX3 cX3_partsLent 3 (some .int) d Post Γ 0 [(0, zR (b + 9)), (1, zI a1), (2, zI a2)] [] h := by
  refine z_aload_n (pc := 0) (n := 0) dX3_partsLent_0 rfl rfl ?_
  refine z_aload_n (pc := 1) (n := 0) dX3_partsLent_1 rfl rfl ?_
  refine z_getR (pc := 2) (q2 := b + 11) (zo_Loans hb) rfl inT3 (i := 1) (by decide) wf_X3_15 rfl (fun _ _ => rfl) dX3_partsLent_2 ?_
  refine z_iload_n (pc := 5) (n := 1) dX3_partsLent_5 rfl rfl ?_
  refine z_iload_n (pc := 6) (n := 2) dX3_partsLent_6 rfl rfl ?_
  obtain ⟨d1, P2, e5, s6, Q⟩ := Q
  refine z_callV (pc := 7) (M := mX3_sumParts) (as := [_, _, _]) (st := []) s6 (zo_Loans hb) rfl wi_X3_sumParts wm_X3_sumParts ⟨by omega, by decide⟩ wl_X3_43 dX3_partsLent_7 rfl (Nat.le_of_ble_eq_true rfl) rfl ?_
  intro r3 h4 s6
  obtain ⟨x7, rfl, Q⟩ := Q _ _ s6
  exact z_iret (pc := 10) rfl dX3_partsLent_10 Q
set_option maxHeartbeats 4000000 in
set_option maxRecDepth 100000 in
theorem k_X3_remove_0 {d : Nat} {Post : Option zA → zH → Prop} {Γ : zCx} {h : zH} {b : Nat} {a1 : Int} (hb : zSt b) (hd : 1 ≤ d) (Q :
 ∀ x1 : Int, x1 = (zwr ((zwr ((h (b + 9) 5) - a1)) - 1)) →
 0 ≤ (zwr (a1 + 1)) ∧
 0 ≤ a1 ∧
 0 ≤ x1 ∧
 (zwr (a1 + 1)) + x1 ≤ 40 ∧
 a1 + x1 ≤ 40 ∧
 ∀ h7 : zH, h7 = zcp h (b + 10) (zwr (a1 + 1)).toNat (b + 10) a1.toNat x1.toNat →
 0 ≤ (zwr (a1 + 1)) ∧
 0 ≤ a1 ∧
 0 ≤ x1 ∧
 (zwr (a1 + 1)) + x1 ≤ 40 ∧
 a1 + x1 ≤ 40 ∧
 ∀ h13 : zH, h13 = zcp h7 (b + 11) (zwr (a1 + 1)).toNat (b + 11) a1.toNat x1.toNat →
 0 ≤ (zwr (a1 + 1)) ∧
 0 ≤ a1 ∧
 0 ≤ x1 ∧
 (zwr (a1 + 1)) + x1 ≤ 40 ∧
 a1 + x1 ≤ 40 ∧
 ∀ h19 : zH, h19 = zcp h13 (b + 12) (zwr (a1 + 1)).toNat (b + 12) a1.toNat x1.toNat →
 0 ≤ (zwr (a1 + 1)) ∧
 0 ≤ a1 ∧
 0 ≤ x1 ∧
 (zwr (a1 + 1)) + x1 ≤ 40 ∧
 a1 + x1 ≤ 40 ∧
 ∀ h25 : zH, h25 = zcp h19 (b + 13) (zwr (a1 + 1)).toNat (b + 13) a1.toNat x1.toNat →
 0 ≤ (zwr (a1 + 1)) ∧
 0 ≤ a1 ∧
 0 ≤ x1 ∧
 (zwr (a1 + 1)) + x1 ≤ 40 ∧
 a1 + x1 ≤ 40 ∧
 ∀ h31 : zH, h31 = zcp h25 (b + 14) (zwr (a1 + 1)).toNat (b + 14) a1.toNat x1.toNat →
 ∀ h32 : zH, h32 = zu h31 (b + 9) 5 (zwr ((h31 (b + 9) 5) - 1)) →
 ∀ h33 : zH, h33 = zu h32 (b + 9) 7 (zwr ((h32 (b + 9) 7) + 1)) →
 Post none h33) :
    zV RX3 cX3_remove 3 none d Post Γ 0 [(0, zR (b + 9)), (1, zI a1)] [] h := by
  refine z_aload_n (pc := 0) (n := 0) dX3_remove_0 rfl rfl ?_
  refine z_getI (pc := 1) (zo_Loans hb) rfl inT3 (i := 5) (by decide) wf_X3_27 rfl (fun _ _ => rfl) dX3_remove_1 ?_
  refine z_iload_n (pc := 4) (n := 1) dX3_remove_4 rfl rfl ?_
  refine z_isub (pc := 5) dX3_remove_5 ?_
  refine z_iconst (pc := 6) (a := 1) dX3_remove_6 rfl ?_
  refine z_isub (pc := 7) dX3_remove_7 ?_
  refine z_top (fun x1 ex1 => ?_)
  replace Q := Q x1 ex1
  refine z_istore_n (pc := 8) (ls' := [(2, _), (0, _), (1, _)]) dX3_remove_8 rfl (by decide) rfl ?_
  refine z_aload_n (pc := 9) (n := 1) dX3_remove_9 rfl rfl ?_
  refine z_getR (pc := 10) (q2 := b + 10) (zo_Loans hb) rfl inT3 (i := 0) (by decide) wf_X3_9 rfl (fun _ _ => rfl) dX3_remove_10 ?_
  refine z_iload_n (pc := 13) (n := 2) dX3_remove_13 rfl rfl ?_
  refine z_iconst (pc := 14) (a := 1) dX3_remove_14 rfl ?_
  refine z_iadd (pc := 15) dX3_remove_15 ?_
  refine z_aload_n (pc := 16) (n := 1) dX3_remove_16 rfl rfl ?_
  refine z_getR (pc := 17) (q2 := b + 10) (zo_Loans hb) rfl inT3 (i := 0) (by decide) wf_X3_9 rfl (fun _ _ => rfl) dX3_remove_17 ?_
  refine z_iload_n (pc := 20) (n := 2) dX3_remove_20 rfl rfl ?_
  refine z_iload_n (pc := 21) (n := 0) dX3_remove_21 rfl rfl ?_
  obtain ⟨c2, Q⟩ := Q
  obtain ⟨c3, Q⟩ := Q
  obtain ⟨c4, Q⟩ := Q
  obtain ⟨c5, Q⟩ := Q
  obtain ⟨c6, Q⟩ := Q
  refine z_copy (pc := 22) (za_number hb) (za_number hb) wl_X3_37 wn_copy ws_copy wi_copy c2 c3 c4 c5 c6 (by omega) (by decide) dX3_remove_22 ?_
  refine z_heap (fun h7 eh7 => ?_)
  replace Q := Q h7 eh7
  refine z_aload_n (pc := 25) (n := 1) dX3_remove_25 rfl rfl ?_
  refine z_getR (pc := 26) (q2 := b + 11) (zo_Loans hb) rfl inT3 (i := 1) (by decide) wf_X3_15 rfl (fun _ _ => rfl) dX3_remove_26 ?_
  refine z_iload_n (pc := 29) (n := 2) dX3_remove_29 rfl rfl ?_
  refine z_iconst (pc := 30) (a := 1) dX3_remove_30 rfl ?_
  refine z_iadd (pc := 31) dX3_remove_31 ?_
  refine z_aload_n (pc := 32) (n := 1) dX3_remove_32 rfl rfl ?_
  refine z_getR (pc := 33) (q2 := b + 11) (zo_Loans hb) rfl inT3 (i := 1) (by decide) wf_X3_15 rfl (fun _ _ => rfl) dX3_remove_33 ?_
  refine z_iload_n (pc := 36) (n := 2) dX3_remove_36 rfl rfl ?_
  refine z_iload_n (pc := 37) (n := 0) dX3_remove_37 rfl rfl ?_
  obtain ⟨c8, Q⟩ := Q
  obtain ⟨c9, Q⟩ := Q
  obtain ⟨c10, Q⟩ := Q
  obtain ⟨c11, Q⟩ := Q
  obtain ⟨c12, Q⟩ := Q
  refine z_copy (pc := 38) (za_lender hb) (za_lender hb) wl_X3_37 wn_copy ws_copy wi_copy c8 c9 c10 c11 c12 (by omega) (by decide) dX3_remove_38 ?_
  refine z_heap (fun h13 eh13 => ?_)
  replace Q := Q h13 eh13
  refine z_aload_n (pc := 41) (n := 1) dX3_remove_41 rfl rfl ?_
  refine z_getR (pc := 42) (q2 := b + 12) (zo_Loans hb) rfl inT3 (i := 2) (by decide) wf_X3_18 rfl (fun _ _ => rfl) dX3_remove_42 ?_
  refine z_iload_n (pc := 45) (n := 2) dX3_remove_45 rfl rfl ?_
  refine z_iconst (pc := 46) (a := 1) dX3_remove_46 rfl ?_
  refine z_iadd (pc := 47) dX3_remove_47 ?_
  refine z_aload_n (pc := 48) (n := 1) dX3_remove_48 rfl rfl ?_
  refine z_getR (pc := 49) (q2 := b + 12) (zo_Loans hb) rfl inT3 (i := 2) (by decide) wf_X3_18 rfl (fun _ _ => rfl) dX3_remove_49 ?_
  refine z_iload_n (pc := 52) (n := 2) dX3_remove_52 rfl rfl ?_
  refine z_iload_n (pc := 53) (n := 0) dX3_remove_53 rfl rfl ?_
  obtain ⟨c14, Q⟩ := Q
  obtain ⟨c15, Q⟩ := Q
  obtain ⟨c16, Q⟩ := Q
  obtain ⟨c17, Q⟩ := Q
  obtain ⟨c18, Q⟩ := Q
  refine z_copy (pc := 54) (za_borrower hb) (za_borrower hb) wl_X3_37 wn_copy ws_copy wi_copy c14 c15 c16 c17 c18 (by omega) (by decide) dX3_remove_54 ?_
  refine z_heap (fun h19 eh19 => ?_)
  replace Q := Q h19 eh19
  refine z_aload_n (pc := 57) (n := 1) dX3_remove_57 rfl rfl ?_
  refine z_getR (pc := 58) (q2 := b + 13) (zo_Loans hb) rfl inT3 (i := 3) (by decide) wf_X3_21 rfl (fun _ _ => rfl) dX3_remove_58 ?_
  refine z_iload_n (pc := 61) (n := 2) dX3_remove_61 rfl rfl ?_
  refine z_iconst (pc := 62) (a := 1) dX3_remove_62 rfl ?_
  refine z_iadd (pc := 63) dX3_remove_63 ?_
  refine z_aload_n (pc := 64) (n := 1) dX3_remove_64 rfl rfl ?_
  refine z_getR (pc := 65) (q2 := b + 13) (zo_Loans hb) rfl inT3 (i := 3) (by decide) wf_X3_21 rfl (fun _ _ => rfl) dX3_remove_65 ?_
  refine z_iload_n (pc := 68) (n := 2) dX3_remove_68 rfl rfl ?_
  refine z_iload_n (pc := 69) (n := 0) dX3_remove_69 rfl rfl ?_
  obtain ⟨c20, Q⟩ := Q
  obtain ⟨c21, Q⟩ := Q
  obtain ⟨c22, Q⟩ := Q
  obtain ⟨c23, Q⟩ := Q
  obtain ⟨c24, Q⟩ := Q
  refine z_copy (pc := 70) (za_lcell hb) (za_lcell hb) wl_X3_37 wn_copy ws_copy wi_copy c20 c21 c22 c23 c24 (by omega) (by decide) dX3_remove_70 ?_
  refine z_heap (fun h25 eh25 => ?_)
  replace Q := Q h25 eh25
  refine z_aload_n (pc := 73) (n := 1) dX3_remove_73 rfl rfl ?_
  refine z_getR (pc := 74) (q2 := b + 14) (zo_Loans hb) rfl inT3 (i := 4) (by decide) wf_X3_24 rfl (fun _ _ => rfl) dX3_remove_74 ?_
  refine z_iload_n (pc := 77) (n := 2) dX3_remove_77 rfl rfl ?_
  refine z_iconst (pc := 78) (a := 1) dX3_remove_78 rfl ?_
  refine z_iadd (pc := 79) dX3_remove_79 ?_
  refine z_aload_n (pc := 80) (n := 1) dX3_remove_80 rfl rfl ?_
  refine z_getR (pc := 81) (q2 := b + 14) (zo_Loans hb) rfl inT3 (i := 4) (by decide) wf_X3_24 rfl (fun _ _ => rfl) dX3_remove_81 ?_
  refine z_iload_n (pc := 84) (n := 2) dX3_remove_84 rfl rfl ?_
  refine z_iload_n (pc := 85) (n := 0) dX3_remove_85 rfl rfl ?_
  obtain ⟨c26, Q⟩ := Q
  obtain ⟨c27, Q⟩ := Q
  obtain ⟨c28, Q⟩ := Q
  obtain ⟨c29, Q⟩ := Q
  obtain ⟨c30, Q⟩ := Q
  refine z_copy (pc := 86) (za_parts hb) (za_parts hb) wl_X3_37 wn_copy ws_copy wi_copy c26 c27 c28 c29 c30 (by omega) (by decide) dX3_remove_86 ?_
  refine z_heap (fun h31 eh31 => ?_)
  replace Q := Q h31 eh31
  refine z_aload_n (pc := 89) (n := 1) dX3_remove_89 rfl rfl ?_
  refine z_dup (pc := 90) dX3_remove_90 rfl ?_
  refine z_getI (pc := 91) (zo_Loans hb) rfl inT3 (i := 5) (by decide) wf_X3_27 rfl (fun _ _ => rfl) dX3_remove_91 ?_
  refine z_iconst (pc := 94) (a := 1) dX3_remove_94 rfl ?_
  refine z_isub (pc := 95) dX3_remove_95 ?_
  refine z_putI (pc := 96) (zo_Loans hb) rfl inT3 (i := 5) (by decide) wf_X3_27 rfl tyX3 tyX3_ok nmX3 rfl (fun _ _ => Nat.le_of_ble_eq_true rfl) (fun _ _ _ => rfl) rfl dX3_remove_96 ?_
  refine z_heap (fun h32 eh32 => ?_)
  replace Q := Q h32 eh32
  refine z_aload_n (pc := 99) (n := 1) dX3_remove_99 rfl rfl ?_
  refine z_dup (pc := 100) dX3_remove_100 rfl ?_
  refine z_getI (pc := 101) (zo_Loans hb) rfl inT3 (i := 7) (by decide) wf_X3_34 rfl (fun _ _ => rfl) dX3_remove_101 ?_
  refine z_iconst (pc := 104) (a := 1) dX3_remove_104 rfl ?_
  refine z_iadd (pc := 105) dX3_remove_105 ?_
  refine z_putI (pc := 106) (zo_Loans hb) rfl inT3 (i := 7) (by decide) wf_X3_34 rfl tyX3 tyX3_ok nmX3 rfl (fun _ _ => Nat.le_of_ble_eq_true rfl) (fun _ _ _ => rfl) rfl dX3_remove_106 ?_
  refine z_heap (fun h33 eh33 => ?_)
  replace Q := Q h33 eh33
  exact z_vret (pc := 109) rfl dX3_remove_109 Q
set_option maxHeartbeats 4000000 in
set_option maxRecDepth 100000 in
theorem k_X3_rowOf_0 {d : Nat} {Post : Option zA → zH → Prop} {Γ : zCx} {h : zH} {b : Nat} {a1 : Int} (hb : zSt b) (hd : 1 ≤ d) (Q :
 zV RX3 cX3_rowOf 3 (some .int) d Post Γ 2 [(0, zR (b + 9)), (1, zI a1), (2, zI 0)] [] h) :
    zV RX3 cX3_rowOf 3 (some .int) d Post Γ 0 [(0, zR (b + 9)), (1, zI a1)] [] h := by
  refine z_iconst (pc := 0) (a := 0) dX3_rowOf_0 rfl ?_
  refine z_istore_n (pc := 1) (ls' := [(2, _), (0, _), (1, _)]) dX3_rowOf_1 rfl (by decide) rfl ?_
  exact z_sub (ks := [1, 2, 0]) rfl Q
set_option maxHeartbeats 4000000 in
set_option maxRecDepth 100000 in
theorem k_X3_rowOf_2 {d : Nat} {Post : Option zA → zH → Prop} {Γ : zCx} {h : zH} {b : Nat} {v1 : Int} {v2 : Int} (hb : zSt b) (hd : 1 ≤ d) (Q :
 (((h (b + 9) 5) ≤ v2 →
  Post (some (zI (-1))) h) ∧
 (¬ (h (b + 9) 5) ≤ v2 →
  0 ≤ v2 ∧ v2 < 40 ∧
  ((¬ (h (b + 10) v2.toNat) = v1 →
   ∀ x3 : Int, x3 = zwr (v2 + 1) →
   zV RX3 cX3_rowOf 3 (some .int) d Post Γ 2 [(0, zR (b + 9)), (1, zI v1), (2, zI x3)] [] h) ∧
  ((h (b + 10) v2.toNat) = v1 →
   Post (some (zI v2)) h))))) :
    zV RX3 cX3_rowOf 3 (some .int) d Post Γ 2 [(0, zR (b + 9)), (1, zI v1), (2, zI v2)] [] h := by
  refine z_iload_n (pc := 2) (n := 2) dX3_rowOf_2 rfl rfl ?_
  refine z_aload_n (pc := 3) (n := 0) dX3_rowOf_3 rfl rfl ?_
  refine z_getI (pc := 4) (zo_Loans hb) rfl inT3 (i := 5) (by decide) wf_X3_27 rfl (fun _ _ => rfl) dX3_rowOf_4 ?_
  refine z_icmp_ge (pc := 7) (tgt := 28) dX3_rowOf_7 (by decide) (fun c => ?_) (fun c => ?_)
  · replace Q := Q.1 c
    refine z_iconst (pc := 28) (a := -1) dX3_rowOf_28 rfl ?_
    exact z_iret (pc := 29) rfl dX3_rowOf_29 Q
  · replace Q := Q.2 c
    refine z_aload_n (pc := 10) (n := 0) dX3_rowOf_10 rfl rfl ?_
    refine z_getR (pc := 11) (q2 := b + 10) (zo_Loans hb) rfl inT3 (i := 0) (by decide) wf_X3_9 rfl (fun _ _ => rfl) dX3_rowOf_11 ?_
    refine z_iload_n (pc := 14) (n := 2) dX3_rowOf_14 rfl rfl ?_
    obtain ⟨c1, c2, Q⟩ := Q
    refine z_iald (pc := 15) (za_number hb) c1 c2 dX3_rowOf_15 ?_
    refine z_iload_n (pc := 16) (n := 1) dX3_rowOf_16 rfl rfl ?_
    refine z_icmp_ne (pc := 17) (tgt := 22) dX3_rowOf_17 (by decide) (fun c => ?_) (fun c => ?_)
    · replace Q := Q.1 c
      refine z_iincg (pc := 22) (n := 2) (lf := fun y => [(2, zI y), (0, _), (1, _)]) dX3_rowOf_22 rfl (by decide) (fun _ => rfl) (fun x3 ex3 => ?_)
      replace Q := Q x3 ex3
      refine z_goto (pc := 25) (tgt := 2) dX3_rowOf_25 (by decide) ?_
      exact z_sub (ks := [1, 2, 0]) rfl Q
    · replace Q := Q.2 c
      refine z_iload_n (pc := 20) (n := 2) dX3_rowOf_20 rfl rfl ?_
      exact z_iret (pc := 21) rfl dX3_rowOf_21 Q
set_option maxHeartbeats 4000000 in
set_option maxRecDepth 100000 in
theorem k_X3_sumParts_0 {d : Nat} {Post : Option zA → zH → Prop} {Γ : zCx} {h : zH} {b : Nat} {q1 : Nat} {a2 : Int} {a3 : Int} (hb : zSt b) (hq1 : zArI q1 40) (hd : 1 ≤ d) (Q :
 zV RX3 cX3_sumParts 6 (some .int) d Post Γ 6 [(0, zR (b + 9)), (1, zR q1), (2, zI a2), (3, zI a3), (4, zI 0), (5, zI 0)] [] h) :
    zV RX3 cX3_sumParts 6 (some .int) d Post Γ 0 [(0, zR (b + 9)), (1, zR q1), (2, zI a2), (3, zI a3)] [] h := by
  refine z_iconst (pc := 0) (a := 0) dX3_sumParts_0 rfl ?_
  refine z_istore (pc := 1) (ls' := [(4, _), (0, _), (1, _), (2, _), (3, _)]) dX3_sumParts_1 (by decide) rfl ?_
  refine z_iconst (pc := 3) (a := 0) dX3_sumParts_3 rfl ?_
  refine z_istore (pc := 4) (ls' := [(5, _), (4, _), (0, _), (1, _), (2, _), (3, _)]) dX3_sumParts_4 (by decide) rfl ?_
  exact z_sub (ks := [2, 3, 4, 5, 1, 0]) rfl Q
set_option maxHeartbeats 4000000 in
set_option maxRecDepth 100000 in
theorem k_X3_sumParts_6 {d : Nat} {Post : Option zA → zH → Prop} {Γ : zCx} {h : zH} {b : Nat} {q1 : Nat} {v2 : Int} {v3 : Int} {v4 : Int} {v5 : Int} (hb : zSt b) (hq1 : zArI q1 40) (hd : 1 ≤ d) (Q :
 (((h (b + 9) 5) ≤ v5 →
  Post (some (zI v4)) h) ∧
 (¬ (h (b + 9) 5) ≤ v5 →
  0 ≤ v5 ∧ v5 < 40 ∧
  ((¬ (h q1 v5.toNat) = v2 →
   ∀ x3 : Int, x3 = zwr (v5 + 1) →
   zV RX3 cX3_sumParts 6 (some .int) d Post Γ 6 [(0, zR (b + 9)), (1, zR q1), (2, zI v2), (3, zI v3), (4, zI v4), (5, zI x3)] [] h) ∧
  ((h q1 v5.toNat) = v2 →
   0 ≤ v5 ∧ v5 < 40 ∧
   ((¬ (h (b + 13) v5.toNat) = v3 →
    ∀ x6 : Int, x6 = zwr (v5 + 1) →
    zV RX3 cX3_sumParts 6 (some .int) d Post Γ 6 [(0, zR (b + 9)), (1, zR q1), (2, zI v2), (3, zI v3), (4, zI v4), (5, zI x6)] [] h) ∧
   ((h (b + 13) v5.toNat) = v3 →
    0 ≤ v5 ∧ v5 < 40 ∧
    ∀ x9 : Int, x9 = (zwr (v4 + (h (b + 14) v5.toNat))) →
    ∀ x10 : Int, x10 = zwr (v5 + 1) →
    zV RX3 cX3_sumParts 6 (some .int) d Post Γ 6 [(0, zR (b + 9)), (1, zR q1), (2, zI v2), (3, zI v3), (4, zI x9), (5, zI x10)] [] h))))))) :
    zV RX3 cX3_sumParts 6 (some .int) d Post Γ 6 [(0, zR (b + 9)), (1, zR q1), (2, zI v2), (3, zI v3), (4, zI v4), (5, zI v5)] [] h := by
  refine z_iload (pc := 6) (n := 5) dX3_sumParts_6 rfl ?_
  refine z_aload_n (pc := 8) (n := 0) dX3_sumParts_8 rfl rfl ?_
  refine z_getI (pc := 9) (zo_Loans hb) rfl inT3 (i := 5) (by decide) wf_X3_27 rfl (fun _ _ => rfl) dX3_sumParts_9 ?_
  refine z_icmp_ge (pc := 12) (tgt := 52) dX3_sumParts_12 (by decide) (fun c => ?_) (fun c => ?_)
  · replace Q := Q.1 c
    refine z_iload (pc := 52) (n := 4) dX3_sumParts_52 rfl ?_
    exact z_iret (pc := 54) rfl dX3_sumParts_54 Q
  · replace Q := Q.2 c
    refine z_aload_n (pc := 15) (n := 1) dX3_sumParts_15 rfl rfl ?_
    refine z_iload (pc := 16) (n := 5) dX3_sumParts_16 rfl ?_
    obtain ⟨c1, c2, Q⟩ := Q
    refine z_iald (pc := 18) hq1 c1 c2 dX3_sumParts_18 ?_
    refine z_iload_n (pc := 19) (n := 2) dX3_sumParts_19 rfl rfl ?_
    refine z_icmp_ne (pc := 20) (tgt := 46) dX3_sumParts_20 (by decide) (fun c => ?_) (fun c => ?_)
    · replace Q := Q.1 c
      refine z_iincg (pc := 46) (n := 5) (lf := fun y => [(5, zI y), (0, _), (1, _), (2, _), (3, _), (4, _)]) dX3_sumParts_46 rfl (by decide) (fun _ => rfl) (fun x3 ex3 => ?_)
      replace Q := Q x3 ex3
      refine z_goto (pc := 49) (tgt := 6) dX3_sumParts_49 (by decide) ?_
      exact z_sub (ks := [1, 2, 3, 4, 5, 0]) rfl Q
    · replace Q := Q.2 c
      refine z_aload_n (pc := 23) (n := 0) dX3_sumParts_23 rfl rfl ?_
      refine z_getR (pc := 24) (q2 := b + 13) (zo_Loans hb) rfl inT3 (i := 3) (by decide) wf_X3_21 rfl (fun _ _ => rfl) dX3_sumParts_24 ?_
      refine z_iload (pc := 27) (n := 5) dX3_sumParts_27 rfl ?_
      obtain ⟨c4, c5, Q⟩ := Q
      refine z_iald (pc := 29) (za_lcell hb) c4 c5 dX3_sumParts_29 ?_
      refine z_iload_n (pc := 30) (n := 3) dX3_sumParts_30 rfl rfl ?_
      refine z_icmp_ne (pc := 31) (tgt := 46) dX3_sumParts_31 (by decide) (fun c => ?_) (fun c => ?_)
      · replace Q := Q.1 c
        refine z_iincg (pc := 46) (n := 5) (lf := fun y => [(5, zI y), (0, _), (1, _), (2, _), (3, _), (4, _)]) dX3_sumParts_46 rfl (by decide) (fun _ => rfl) (fun x6 ex6 => ?_)
        replace Q := Q x6 ex6
        refine z_goto (pc := 49) (tgt := 6) dX3_sumParts_49 (by decide) ?_
        exact z_sub (ks := [1, 2, 3, 4, 5, 0]) rfl Q
      · replace Q := Q.2 c
        refine z_iload (pc := 34) (n := 4) dX3_sumParts_34 rfl ?_
        refine z_aload_n (pc := 36) (n := 0) dX3_sumParts_36 rfl rfl ?_
        refine z_getR (pc := 37) (q2 := b + 14) (zo_Loans hb) rfl inT3 (i := 4) (by decide) wf_X3_24 rfl (fun _ _ => rfl) dX3_sumParts_37 ?_
        refine z_iload (pc := 40) (n := 5) dX3_sumParts_40 rfl ?_
        obtain ⟨c7, c8, Q⟩ := Q
        refine z_iald (pc := 42) (za_parts hb) c7 c8 dX3_sumParts_42 ?_
        refine z_iadd (pc := 43) dX3_sumParts_43 ?_
        refine z_top (fun x9 ex9 => ?_)
        replace Q := Q x9 ex9
        refine z_istore (pc := 44) (ls' := [(4, _), (0, _), (1, _), (2, _), (3, _), (5, _)]) dX3_sumParts_44 (by decide) rfl ?_
        refine z_iincg (pc := 46) (n := 5) (lf := fun y => [(5, zI y), (4, _), (0, _), (1, _), (2, _), (3, _)]) dX3_sumParts_46 rfl (by decide) (fun _ => rfl) (fun x10 ex10 => ?_)
        replace Q := Q x10 ex10
        refine z_goto (pc := 49) (tgt := 6) dX3_sumParts_49 (by decide) ?_
        exact z_sub (ks := [2, 3, 4, 5, 1, 0]) rfl Q
