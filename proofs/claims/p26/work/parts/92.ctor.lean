/-! the constructors (printed by wip/gen/genctor.py) -/
section grows2
variable {own : String} {cc : ByteArray} {nL : Nat} {R : Room} {Γ : gCx} {pc : Nat} {ls ls' : List (Nat × Value)} {st : List Value} {ws ws' : va_W} {cells slots : Nat}
theorem g_iast2 {x q0 n kN : Nat} {f : Nat → Int32} {i v : Int32} (he : ws[q0]? = some (x, .inl (gI Γ, n, .inl f))) (hin : ¬ (i < 0 ∨ n ≤ i.toNatClampNeg)) (hk : i.toNatClampNeg = kN) (hs : ws.set q0 (x, .inl (gI Γ, n, .inl (upd f kN v))) = ws') (hd : decode cc pc = .ok (.iastore, 1)) (k : gV own cc nL R Γ (pc + 1) ls st ws' cells slots) : gV own cc nL R Γ pc ls (.int v :: .int i :: .ref x :: st) ws cells slots := g_iast he hin (by rw [hk]; exact hs) hd k
theorem g_astq2 {x q0 qk n w kN : Nat} {vs : List Value} {f : Nat → Option Nat} {i : Int32} (he : ws[q0]? = some (x, .inl (gS Γ, n, .inr (.inr (.inr (.inr f)))))) (hv : ws[qk]? = some (w, .inr (4, vs))) (hin : ¬ (i < 0 ∨ n ≤ i.toNatClampNeg)) (hk : i.toNatClampNeg = kN) (hs : ws.set q0 (x, .inl (gS Γ, n, .inr (.inr (.inr (.inr (va_up f kN (some w))))))) = ws') (hd : decode cc pc = .ok (.aastore, 1)) (k : gV own cc nL R Γ (pc + 1) ls st ws' cells slots) : gV own cc nL R Γ pc ls (.ref w :: .int i :: .ref x :: st) ws cells slots := g_astq he hv hin (by rw [hk]; exact hs) hd k
end grows2
def wX0 (cI : ClassId) (q : Nat → Nat) : va_W := [(q 0, .inr (0, [.ref (q 1), .ref (q 2)])), (q 1, .inl (cI, 36, .inl (fun _ => 0))), (q 2, .inl (cI, 6, .inl (fun _ => 0)))]
def PX0 (Z : gZ) (h0 : Nat) (w1 : va_W) : Prop := ∃ q : Nat → Nat, q 0 = h0 ∧ w1 = wX0 Z.1 q
set_option maxRecDepth 20000 in
theorem c_X0_init : gSp 2 2 42 mX0_init 0 [.null, .null] PX0 := by
  refine gSp_of (by decide +kernel) (Nat.le_of_ble_eq_true rfl) rfl rfl dX0_init_20 ?_
  intro Γ h0 hI kk
  refine g_aload_n (n := 0) dX0_init_0 rfl rfl ?_
  refine g_obj wl_X0_3 ⟨Nat.le_of_ble_eq_true rfl, Nat.le_of_ble_eq_true rfl⟩ dX0_init_1 ?_
  refine g_aload_n (n := 0) dX0_init_4 rfl rfl ?_
  refine g_bipush (v := 36) dX0_init_5 (by decide +kernel) ?_
  refine g_newaI (N := 36) ⟨by decide +kernel, by decide +kernel⟩ (Nat.le_of_ble_eq_true rfl) ⟨Nat.le_of_ble_eq_true rfl, Nat.le_of_ble_eq_true rfl⟩ dX0_init_7 ?_
  intro q0
  refine g_putF (ci := 0) (N := 2) (i := 0) (q0 := 0) (T := TX0) (C := RX0) (ty := .array .int) (fs := [.null, .null]) (v := .ref q0) (ws' := [(h0, .inr (0, [.ref q0, .null])), (q0, .inl (gI Γ, 36, .inl (fun _ => 0)))]) hI rfl rfl inT0 tyX0 tyX0_ok nmX0 (by decide) wf_X0_9 rfl rfl rfl (by decide +kernel) rfl rfl (Nat.le_of_ble_eq_true rfl) rfl dX0_init_9 ?_
  refine g_aload_n (n := 0) dX0_init_12 rfl rfl ?_
  refine g_bipush (v := 6) dX0_init_13 (by decide +kernel) ?_
  refine g_newaI (N := 6) ⟨by decide +kernel, by decide +kernel⟩ (Nat.le_of_ble_eq_true rfl) ⟨Nat.le_of_ble_eq_true rfl, Nat.le_of_ble_eq_true rfl⟩ dX0_init_15 ?_
  intro q1
  refine g_putF (ci := 0) (N := 2) (i := 1) (q0 := 0) (T := TX0) (C := RX0) (ty := .array .int) (fs := [.ref q0, .null]) (v := .ref q1) (ws' := [(h0, .inr (0, [.ref q0, .ref q1])), (q0, .inl (gI Γ, 36, .inl (fun _ => 0))), (q1, .inl (gI Γ, 6, .inl (fun _ => 0)))]) hI rfl rfl inT0 tyX0 tyX0_ok nmX0 (by decide) wf_X0_15 rfl rfl rfl (by decide +kernel) rfl rfl (Nat.le_of_ble_eq_true rfl) rfl dX0_init_17 ?_
  exact kk _ _ ⟨(gI Γ, gB Γ, gS Γ), rfl, rfl, rfl, (fun k => [h0, q0, q1].getD k 0), rfl, rfl⟩
def wX1 (cI : ClassId) (q : Nat → Nat) : va_W := [(q 0, .inr (1, [.ref (q 1)])), (q 1, .inl (cI, 384, .inl (fun _ => 0)))]
def PX1 (Z : gZ) (h0 : Nat) (w1 : va_W) : Prop := ∃ q : Nat → Nat, q 0 = h0 ∧ w1 = wX1 Z.1 q
set_option maxRecDepth 20000 in
theorem c_X1_init : gSp 2 1 384 mX1_init 1 [.null] PX1 := by
  refine gSp_of (by decide +kernel) (Nat.le_of_ble_eq_true rfl) rfl rfl dX1_init_13 ?_
  intro Γ h0 hI kk
  refine g_aload_n (n := 0) dX1_init_0 rfl rfl ?_
  refine g_obj wl_X1_3 ⟨Nat.le_of_ble_eq_true rfl, Nat.le_of_ble_eq_true rfl⟩ dX1_init_1 ?_
  refine g_aload_n (n := 0) dX1_init_4 rfl rfl ?_
  refine g_sipush (v := 384) dX1_init_5 (by decide +kernel) ?_
  refine g_newaI (N := 384) ⟨by decide +kernel, by decide +kernel⟩ (Nat.le_of_ble_eq_true rfl) ⟨Nat.le_of_ble_eq_true rfl, Nat.le_of_ble_eq_true rfl⟩ dX1_init_8 ?_
  intro q0
  refine g_putF (ci := 1) (N := 1) (i := 0) (q0 := 0) (T := TX1) (C := RX1) (ty := .array .int) (fs := [.null]) (v := .ref q0) (ws' := [(h0, .inr (1, [.ref q0])), (q0, .inl (gI Γ, 384, .inl (fun _ => 0)))]) hI rfl rfl inT1 tyX1 tyX1_ok nmX1 (by decide) wf_X1_9 rfl rfl rfl (by decide +kernel) rfl rfl (Nat.le_of_ble_eq_true rfl) rfl dX1_init_10 ?_
  exact kk _ _ ⟨(gI Γ, gB Γ, gS Γ), rfl, rfl, rfl, (fun k => [h0, q0].getD k 0), rfl, rfl⟩
def wX3 (cI : ClassId) (q : Nat → Nat) : va_W := [(q 0, .inr (3, [.ref (q 1), .ref (q 2), .ref (q 3), .ref (q 4), .ref (q 5), .int 0, .int 0, .int 0])), (q 1, .inl (cI, 40, .inl (fun _ => 0))), (q 2, .inl (cI, 40, .inl (fun _ => 0))), (q 3, .inl (cI, 40, .inl (fun _ => 0))), (q 4, .inl (cI, 40, .inl (fun _ => 0))), (q 5, .inl (cI, 40, .inl (fun _ => 0)))]
def PX3 (Z : gZ) (h0 : Nat) (w1 : va_W) : Prop := ∃ q : Nat → Nat, q 0 = h0 ∧ w1 = wX3 Z.1 q
set_option maxRecDepth 20000 in
theorem c_X3_init : gSp 2 5 200 mX3_init 3 [.null, .null, .null, .null, .null, .int 0, .int 0, .int 0] PX3 := by
  refine gSp_of (by decide +kernel) (Nat.le_of_ble_eq_true rfl) rfl rfl dX3_init_44 ?_
  intro Γ h0 hI kk
  refine g_aload_n (n := 0) dX3_init_0 rfl rfl ?_
  refine g_obj wl_X3_3 ⟨Nat.le_of_ble_eq_true rfl, Nat.le_of_ble_eq_true rfl⟩ dX3_init_1 ?_
  refine g_aload_n (n := 0) dX3_init_4 rfl rfl ?_
  refine g_bipush (v := 40) dX3_init_5 (by decide +kernel) ?_
  refine g_newaI (N := 40) ⟨by decide +kernel, by decide +kernel⟩ (Nat.le_of_ble_eq_true rfl) ⟨Nat.le_of_ble_eq_true rfl, Nat.le_of_ble_eq_true rfl⟩ dX3_init_7 ?_
  intro q0
  refine g_putF (ci := 3) (N := 8) (i := 0) (q0 := 0) (T := TX3) (C := RX3) (ty := .array .int) (fs := [.null, .null, .null, .null, .null, .int 0, .int 0, .int 0]) (v := .ref q0) (ws' := [(h0, .inr (3, [.ref q0, .null, .null, .null, .null, .int 0, .int 0, .int 0])), (q0, .inl (gI Γ, 40, .inl (fun _ => 0)))]) hI rfl rfl inT3 tyX3 tyX3_ok nmX3 (by decide) wf_X3_9 rfl rfl rfl (by decide +kernel) rfl rfl (Nat.le_of_ble_eq_true rfl) rfl dX3_init_9 ?_
  refine g_aload_n (n := 0) dX3_init_12 rfl rfl ?_
  refine g_bipush (v := 40) dX3_init_13 (by decide +kernel) ?_
  refine g_newaI (N := 40) ⟨by decide +kernel, by decide +kernel⟩ (Nat.le_of_ble_eq_true rfl) ⟨Nat.le_of_ble_eq_true rfl, Nat.le_of_ble_eq_true rfl⟩ dX3_init_15 ?_
  intro q1
  refine g_putF (ci := 3) (N := 8) (i := 1) (q0 := 0) (T := TX3) (C := RX3) (ty := .array .int) (fs := [.ref q0, .null, .null, .null, .null, .int 0, .int 0, .int 0]) (v := .ref q1) (ws' := [(h0, .inr (3, [.ref q0, .ref q1, .null, .null, .null, .int 0, .int 0, .int 0])), (q0, .inl (gI Γ, 40, .inl (fun _ => 0))), (q1, .inl (gI Γ, 40, .inl (fun _ => 0)))]) hI rfl rfl inT3 tyX3 tyX3_ok nmX3 (by decide) wf_X3_15 rfl rfl rfl (by decide +kernel) rfl rfl (Nat.le_of_ble_eq_true rfl) rfl dX3_init_17 ?_
  refine g_aload_n (n := 0) dX3_init_20 rfl rfl ?_
  refine g_bipush (v := 40) dX3_init_21 (by decide +kernel) ?_
  refine g_newaI (N := 40) ⟨by decide +kernel, by decide +kernel⟩ (Nat.le_of_ble_eq_true rfl) ⟨Nat.le_of_ble_eq_true rfl, Nat.le_of_ble_eq_true rfl⟩ dX3_init_23 ?_
  intro q2
  refine g_putF (ci := 3) (N := 8) (i := 2) (q0 := 0) (T := TX3) (C := RX3) (ty := .array .int) (fs := [.ref q0, .ref q1, .null, .null, .null, .int 0, .int 0, .int 0]) (v := .ref q2) (ws' := [(h0, .inr (3, [.ref q0, .ref q1, .ref q2, .null, .null, .int 0, .int 0, .int 0])), (q0, .inl (gI Γ, 40, .inl (fun _ => 0))), (q1, .inl (gI Γ, 40, .inl (fun _ => 0))), (q2, .inl (gI Γ, 40, .inl (fun _ => 0)))]) hI rfl rfl inT3 tyX3 tyX3_ok nmX3 (by decide) wf_X3_18 rfl rfl rfl (by decide +kernel) rfl rfl (Nat.le_of_ble_eq_true rfl) rfl dX3_init_25 ?_
  refine g_aload_n (n := 0) dX3_init_28 rfl rfl ?_
  refine g_bipush (v := 40) dX3_init_29 (by decide +kernel) ?_
  refine g_newaI (N := 40) ⟨by decide +kernel, by decide +kernel⟩ (Nat.le_of_ble_eq_true rfl) ⟨Nat.le_of_ble_eq_true rfl, Nat.le_of_ble_eq_true rfl⟩ dX3_init_31 ?_
  intro q3
  refine g_putF (ci := 3) (N := 8) (i := 3) (q0 := 0) (T := TX3) (C := RX3) (ty := .array .int) (fs := [.ref q0, .ref q1, .ref q2, .null, .null, .int 0, .int 0, .int 0]) (v := .ref q3) (ws' := [(h0, .inr (3, [.ref q0, .ref q1, .ref q2, .ref q3, .null, .int 0, .int 0, .int 0])), (q0, .inl (gI Γ, 40, .inl (fun _ => 0))), (q1, .inl (gI Γ, 40, .inl (fun _ => 0))), (q2, .inl (gI Γ, 40, .inl (fun _ => 0))), (q3, .inl (gI Γ, 40, .inl (fun _ => 0)))]) hI rfl rfl inT3 tyX3 tyX3_ok nmX3 (by decide) wf_X3_21 rfl rfl rfl (by decide +kernel) rfl rfl (Nat.le_of_ble_eq_true rfl) rfl dX3_init_33 ?_
  refine g_aload_n (n := 0) dX3_init_36 rfl rfl ?_
  refine g_bipush (v := 40) dX3_init_37 (by decide +kernel) ?_
  refine g_newaI (N := 40) ⟨by decide +kernel, by decide +kernel⟩ (Nat.le_of_ble_eq_true rfl) ⟨Nat.le_of_ble_eq_true rfl, Nat.le_of_ble_eq_true rfl⟩ dX3_init_39 ?_
  intro q4
  refine g_putF (ci := 3) (N := 8) (i := 4) (q0 := 0) (T := TX3) (C := RX3) (ty := .array .int) (fs := [.ref q0, .ref q1, .ref q2, .ref q3, .null, .int 0, .int 0, .int 0]) (v := .ref q4) (ws' := [(h0, .inr (3, [.ref q0, .ref q1, .ref q2, .ref q3, .ref q4, .int 0, .int 0, .int 0])), (q0, .inl (gI Γ, 40, .inl (fun _ => 0))), (q1, .inl (gI Γ, 40, .inl (fun _ => 0))), (q2, .inl (gI Γ, 40, .inl (fun _ => 0))), (q3, .inl (gI Γ, 40, .inl (fun _ => 0))), (q4, .inl (gI Γ, 40, .inl (fun _ => 0)))]) hI rfl rfl inT3 tyX3 tyX3_ok nmX3 (by decide) wf_X3_24 rfl rfl rfl (by decide +kernel) rfl rfl (Nat.le_of_ble_eq_true rfl) rfl dX3_init_41 ?_
  exact kk _ _ ⟨(gI Γ, gB Γ, gS Γ), rfl, rfl, rfl, (fun k => [h0, q0, q1, q2, q3, q4].getD k 0), rfl, rfl⟩
def wX5 (cI : ClassId) (q : Nat → Nat) : va_W := [(q 0, .inr (5, [.ref (q 1), .int 0, .int 0, .ref (q 2), .int 0])), (q 1, .inl (cI, 60, .inl (fun _ => 0))), (q 2, .inl (cI, 150, .inl (fun _ => 0)))]
def PX5 (Z : gZ) (h0 : Nat) (w1 : va_W) : Prop := ∃ q : Nat → Nat, q 0 = h0 ∧ w1 = wX5 Z.1 q
set_option maxRecDepth 20000 in
theorem c_X5_init : gSp 2 2 210 mX5_init 5 [.null, .int 0, .int 0, .null, .int 0] PX5 := by
  refine gSp_of (by decide +kernel) (Nat.le_of_ble_eq_true rfl) rfl rfl dX5_init_21 ?_
  intro Γ h0 hI kk
  refine g_aload_n (n := 0) dX5_init_0 rfl rfl ?_
  refine g_obj wl_X5_3 ⟨Nat.le_of_ble_eq_true rfl, Nat.le_of_ble_eq_true rfl⟩ dX5_init_1 ?_
  refine g_aload_n (n := 0) dX5_init_4 rfl rfl ?_
  refine g_bipush (v := 60) dX5_init_5 (by decide +kernel) ?_
  refine g_newaI (N := 60) ⟨by decide +kernel, by decide +kernel⟩ (Nat.le_of_ble_eq_true rfl) ⟨Nat.le_of_ble_eq_true rfl, Nat.le_of_ble_eq_true rfl⟩ dX5_init_7 ?_
  intro q0
  refine g_putF (ci := 5) (N := 5) (i := 0) (q0 := 0) (T := TX5) (C := RX5) (ty := .array .int) (fs := [.null, .int 0, .int 0, .null, .int 0]) (v := .ref q0) (ws' := [(h0, .inr (5, [.ref q0, .int 0, .int 0, .null, .int 0])), (q0, .inl (gI Γ, 60, .inl (fun _ => 0)))]) hI rfl rfl inT5 tyX5 tyX5_ok nmX5 (by decide) wf_X5_9 rfl rfl rfl (by decide +kernel) rfl rfl (Nat.le_of_ble_eq_true rfl) rfl dX5_init_9 ?_
  refine g_aload_n (n := 0) dX5_init_12 rfl rfl ?_
  refine g_sipush (v := 150) dX5_init_13 (by decide +kernel) ?_
  refine g_newaI (N := 150) ⟨by decide +kernel, by decide +kernel⟩ (Nat.le_of_ble_eq_true rfl) ⟨Nat.le_of_ble_eq_true rfl, Nat.le_of_ble_eq_true rfl⟩ dX5_init_16 ?_
  intro q1
  refine g_putF (ci := 5) (N := 5) (i := 3) (q0 := 0) (T := TX5) (C := RX5) (ty := .array .int) (fs := [.ref q0, .int 0, .int 0, .null, .int 0]) (v := .ref q1) (ws' := [(h0, .inr (5, [.ref q0, .int 0, .int 0, .ref q1, .int 0])), (q0, .inl (gI Γ, 60, .inl (fun _ => 0))), (q1, .inl (gI Γ, 150, .inl (fun _ => 0)))]) hI rfl rfl inT5 tyX5 tyX5_ok nmX5 (by decide) wf_X5_15 rfl rfl rfl (by decide +kernel) rfl rfl (Nat.le_of_ble_eq_true rfl) rfl dX5_init_18 ?_
  exact kk _ _ ⟨(gI Γ, gB Γ, gS Γ), rfl, rfl, rfl, (fun k => [h0, q0, q1].getD k 0), rfl, rfl⟩
def fOwn : Nat → Int32 := (upd (upd (upd (upd (upd (upd (fun _ => 0) 0 0) 1 1) 2 2) 3 3) 4 4) 5 5)
def fHeld : Nat → Int32 := (upd (upd (upd (upd (upd (upd (fun _ => 0) 0 64) 7 64) 14 64) 21 64) 28 64) 35 64)
def wX4 (cI : ClassId) (q : Nat → Nat) : va_W := [(q 0, .inr (4, [.ref (q 1), .ref (q 2), .ref (q 3), .ref (q 4), .ref (q 5), .ref (q 6), .ref (q 9), .int 0])), (q 1, .inl (cI, 6, .inl (fun _ => 0))), (q 2, .inl (cI, 6, .inl (fun _ => 0))), (q 3, .inl (cI, 6, .inl fOwn)), (q 4, .inl (cI, 36, .inl fHeld)), (q 5, .inl (cI, 6, .inl (fun _ => 0))), (q 6, .inr (0, [.ref (q 7), .ref (q 8)])), (q 7, .inl (cI, 36, .inl (fun _ => 0))), (q 8, .inl (cI, 6, .inl (fun _ => 0))), (q 9, .inr (3, [.ref (q 10), .ref (q 11), .ref (q 12), .ref (q 13), .ref (q 14), .int 0, .int 0, .int 0])), (q 10, .inl (cI, 40, .inl (fun _ => 0))), (q 11, .inl (cI, 40, .inl (fun _ => 0))), (q 12, .inl (cI, 40, .inl (fun _ => 0))), (q 13, .inl (cI, 40, .inl (fun _ => 0))), (q 14, .inl (cI, 40, .inl (fun _ => 0)))]
def PX4 (Z : gZ) (h0 : Nat) (w1 : va_W) : Prop := ∃ q : Nat → Nat, q 0 = h0 ∧ w1 = wX4 Z.1 q
set_option maxRecDepth 20000 in
theorem c_X4_init : gSp 3 14 312 mX4_init 4 [.null, .null, .null, .null, .null, .null, .null, .int 0] PX4 := by
  refine gSp_of (by decide +kernel) (Nat.le_of_ble_eq_true rfl) rfl rfl dX4_init_100 ?_
  intro Γ h0 hI kk
  refine g_aload_n (n := 0) dX4_init_0 rfl rfl ?_
  refine g_obj wl_X4_3 ⟨Nat.le_of_ble_eq_true rfl, Nat.le_of_ble_eq_true rfl⟩ dX4_init_1 ?_
  refine g_aload_n (n := 0) dX4_init_4 rfl rfl ?_
  refine g_bipush (v := 6) dX4_init_5 (by decide +kernel) ?_
  refine g_newaI (N := 6) ⟨by decide +kernel, by decide +kernel⟩ (Nat.le_of_ble_eq_true rfl) ⟨Nat.le_of_ble_eq_true rfl, Nat.le_of_ble_eq_true rfl⟩ dX4_init_7 ?_
  intro q0
  refine g_putF (ci := 4) (N := 8) (i := 0) (q0 := 0) (T := TX4) (C := RX4) (ty := .array .int) (fs := [.null, .null, .null, .null, .null, .null, .null, .int 0]) (v := .ref q0) (ws' := [(h0, .inr (4, [.ref q0, .null, .null, .null, .null, .null, .null, .int 0])), (q0, .inl (gI Γ, 6, .inl (fun _ => 0)))]) hI rfl rfl inT4 tyX4 tyX4_ok nmX4 (by decide) wf_X4_9 rfl rfl rfl (by decide +kernel) rfl rfl (Nat.le_of_ble_eq_true rfl) rfl dX4_init_9 ?_
  refine g_aload_n (n := 0) dX4_init_12 rfl rfl ?_
  refine g_bipush (v := 6) dX4_init_13 (by decide +kernel) ?_
  refine g_newaI (N := 6) ⟨by decide +kernel, by decide +kernel⟩ (Nat.le_of_ble_eq_true rfl) ⟨Nat.le_of_ble_eq_true rfl, Nat.le_of_ble_eq_true rfl⟩ dX4_init_15 ?_
  intro q1
  refine g_putF (ci := 4) (N := 8) (i := 1) (q0 := 0) (T := TX4) (C := RX4) (ty := .array .int) (fs := [.ref q0, .null, .null, .null, .null, .null, .null, .int 0]) (v := .ref q1) (ws' := [(h0, .inr (4, [.ref q0, .ref q1, .null, .null, .null, .null, .null, .int 0])), (q0, .inl (gI Γ, 6, .inl (fun _ => 0))), (q1, .inl (gI Γ, 6, .inl (fun _ => 0)))]) hI rfl rfl inT4 tyX4 tyX4_ok nmX4 (by decide) wf_X4_15 rfl rfl rfl (by decide +kernel) rfl rfl (Nat.le_of_ble_eq_true rfl) rfl dX4_init_17 ?_
  refine g_aload_n (n := 0) dX4_init_20 rfl rfl ?_
  refine g_bipush (v := 6) dX4_init_21 (by decide +kernel) ?_
  refine g_newaI (N := 6) ⟨by decide +kernel, by decide +kernel⟩ (Nat.le_of_ble_eq_true rfl) ⟨Nat.le_of_ble_eq_true rfl, Nat.le_of_ble_eq_true rfl⟩ dX4_init_23 ?_
  intro q2
  refine g_putF (ci := 4) (N := 8) (i := 2) (q0 := 0) (T := TX4) (C := RX4) (ty := .array .int) (fs := [.ref q0, .ref q1, .null, .null, .null, .null, .null, .int 0]) (v := .ref q2) (ws' := [(h0, .inr (4, [.ref q0, .ref q1, .ref q2, .null, .null, .null, .null, .int 0])), (q0, .inl (gI Γ, 6, .inl (fun _ => 0))), (q1, .inl (gI Γ, 6, .inl (fun _ => 0))), (q2, .inl (gI Γ, 6, .inl (fun _ => 0)))]) hI rfl rfl inT4 tyX4 tyX4_ok nmX4 (by decide) wf_X4_18 rfl rfl rfl (by decide +kernel) rfl rfl (Nat.le_of_ble_eq_true rfl) rfl dX4_init_25 ?_
  refine g_aload_n (n := 0) dX4_init_28 rfl rfl ?_
  refine g_bipush (v := 36) dX4_init_29 (by decide +kernel) ?_
  refine g_newaI (N := 36) ⟨by decide +kernel, by decide +kernel⟩ (Nat.le_of_ble_eq_true rfl) ⟨Nat.le_of_ble_eq_true rfl, Nat.le_of_ble_eq_true rfl⟩ dX4_init_31 ?_
  intro q3
  refine g_putF (ci := 4) (N := 8) (i := 3) (q0 := 0) (T := TX4) (C := RX4) (ty := .array .int) (fs := [.ref q0, .ref q1, .ref q2, .null, .null, .null, .null, .int 0]) (v := .ref q3) (ws' := [(h0, .inr (4, [.ref q0, .ref q1, .ref q2, .ref q3, .null, .null, .null, .int 0])), (q0, .inl (gI Γ, 6, .inl (fun _ => 0))), (q1, .inl (gI Γ, 6, .inl (fun _ => 0))), (q2, .inl (gI Γ, 6, .inl (fun _ => 0))), (q3, .inl (gI Γ, 36, .inl (fun _ => 0)))]) hI rfl rfl inT4 tyX4 tyX4_ok nmX4 (by decide) wf_X4_21 rfl rfl rfl (by decide +kernel) rfl rfl (Nat.le_of_ble_eq_true rfl) rfl dX4_init_33 ?_
  refine g_aload_n (n := 0) dX4_init_36 rfl rfl ?_
  refine g_bipush (v := 6) dX4_init_37 (by decide +kernel) ?_
  refine g_newaI (N := 6) ⟨by decide +kernel, by decide +kernel⟩ (Nat.le_of_ble_eq_true rfl) ⟨Nat.le_of_ble_eq_true rfl, Nat.le_of_ble_eq_true rfl⟩ dX4_init_39 ?_
  intro q4
  refine g_putF (ci := 4) (N := 8) (i := 4) (q0 := 0) (T := TX4) (C := RX4) (ty := .array .int) (fs := [.ref q0, .ref q1, .ref q2, .ref q3, .null, .null, .null, .int 0]) (v := .ref q4) (ws' := [(h0, .inr (4, [.ref q0, .ref q1, .ref q2, .ref q3, .ref q4, .null, .null, .int 0])), (q0, .inl (gI Γ, 6, .inl (fun _ => 0))), (q1, .inl (gI Γ, 6, .inl (fun _ => 0))), (q2, .inl (gI Γ, 6, .inl (fun _ => 0))), (q3, .inl (gI Γ, 36, .inl (fun _ => 0))), (q4, .inl (gI Γ, 6, .inl (fun _ => 0)))]) hI rfl rfl inT4 tyX4 tyX4_ok nmX4 (by decide) wf_X4_24 rfl rfl rfl (by decide +kernel) rfl rfl (Nat.le_of_ble_eq_true rfl) rfl dX4_init_41 ?_
  refine g_aload_n (n := 0) dX4_init_44 rfl rfl ?_
  refine g_new (ci := 0) (fs := [.null, .null]) (C := RX0) (T := TX0) (N := 2) rfl inT0 tyX0 tyX0_ok wk_X4_27 wn_X0 wz_X0 (fun j hj => by
    rcases (show j = 0 ∨ j = 1 by omega) with e | e <;> rw [e] <;> rfl) ⟨Nat.le_of_ble_eq_true rfl, Nat.le_of_ble_eq_true rfl⟩ dX4_init_45 ?_
  intro x5
  refine g_dup dX4_init_48 rfl ?_
  refine g_initN c_X0_init wm_X0_init wii_X0 ⟨rfl, rfl⟩ ⟨Nat.le_of_ble_eq_true rfl, Nat.le_of_ble_eq_true rfl⟩ ⟨Nat.le_of_ble_eq_true rfl, Nat.le_of_ble_eq_true rfl⟩ wl_X4_29 (Nat.le_of_ble_eq_true rfl) dX4_init_49 ?_
  rintro w1 ⟨Z, z1, z2, z3, fx5, hq, hw⟩
  rw [z1] at hw
  subst hw
  subst hq
  refine g_putF (ci := 4) (N := 8) (i := 5) (q0 := 0) (T := TX4) (C := RX4) (ty := .object "LentParts$Claims") (fs := [.ref q0, .ref q1, .ref q2, .ref q3, .ref q4, .null, .null, .int 0]) (v := .ref (fx5 0)) (ws' := ([(h0, .inr (4, [.ref q0, .ref q1, .ref q2, .ref q3, .ref q4, .ref (fx5 0), .null, .int 0])), (q0, .inl (gI Γ, 6, .inl (fun _ => 0))), (q1, .inl (gI Γ, 6, .inl (fun _ => 0))), (q2, .inl (gI Γ, 6, .inl (fun _ => 0))), (q3, .inl (gI Γ, 36, .inl (fun _ => 0))), (q4, .inl (gI Γ, 6, .inl (fun _ => 0)))] ++ wX0 (gI Γ) fx5)) hI rfl rfl inT4 tyX4 tyX4_ok nmX4 (by decide) wf_X4_30 rfl rfl rfl (by decide +kernel) rfl rfl (Nat.le_of_ble_eq_true rfl) rfl dX4_init_52 ?_
  refine g_aload_n (n := 0) dX4_init_55 rfl rfl ?_
  refine g_new (ci := 3) (fs := [.null, .null, .null, .null, .null, .int 0, .int 0, .int 0]) (C := RX3) (T := TX3) (N := 8) rfl inT3 tyX3 tyX3_ok wk_X4_34 wn_X3 wz_X3 (fun j hj => by
    rcases (show j = 0 ∨ j = 1 ∨ j = 2 ∨ j = 3 ∨ j = 4 ∨ j = 5 ∨ j = 6 ∨ j = 7 by omega) with e | e | e | e | e | e | e | e <;> rw [e] <;> rfl) ⟨Nat.le_of_ble_eq_true rfl, Nat.le_of_ble_eq_true rfl⟩ dX4_init_56 ?_
  intro x6
  refine g_dup dX4_init_59 rfl ?_
  refine g_initN c_X3_init wm_X3_init wii_X3 ⟨rfl, rfl⟩ ⟨Nat.le_of_ble_eq_true rfl, Nat.le_of_ble_eq_true rfl⟩ ⟨Nat.le_of_ble_eq_true rfl, Nat.le_of_ble_eq_true rfl⟩ wl_X4_36 (Nat.le_of_ble_eq_true rfl) dX4_init_60 ?_
  rintro w1 ⟨Z, z1, z2, z3, fx6, hq, hw⟩
  rw [z1] at hw
  subst hw
  subst hq
  refine g_putF (ci := 4) (N := 8) (i := 6) (q0 := 0) (T := TX4) (C := RX4) (ty := .object "LentParts$Loans") (fs := [.ref q0, .ref q1, .ref q2, .ref q3, .ref q4, .ref (fx5 0), .null, .int 0]) (v := .ref (fx6 0)) (ws' := ([(h0, .inr (4, [.ref q0, .ref q1, .ref q2, .ref q3, .ref q4, .ref (fx5 0), .ref (fx6 0), .int 0])), (q0, .inl (gI Γ, 6, .inl (fun _ => 0))), (q1, .inl (gI Γ, 6, .inl (fun _ => 0))), (q2, .inl (gI Γ, 6, .inl (fun _ => 0))), (q3, .inl (gI Γ, 36, .inl (fun _ => 0))), (q4, .inl (gI Γ, 6, .inl (fun _ => 0)))] ++ wX0 (gI Γ) fx5 ++ wX3 (gI Γ) fx6)) hI rfl rfl inT4 tyX4 tyX4_ok nmX4 (by decide) wf_X4_37 rfl rfl rfl (by decide +kernel) rfl rfl (Nat.le_of_ble_eq_true rfl) rfl dX4_init_63 ?_
  refine g_iconst (v := 0) dX4_init_66 (by decide +kernel) ?_
  refine g_istore_n dX4_init_67 rfl (by decide) rfl ?_
  refine g_iload_n (n := 0) dX4_init_68 rfl rfl ?_
  refine g_bipush (v := 6) dX4_init_69 (by decide +kernel) ?_
  refine g_icmp_ge (tgt := 100) dX4_init_71 rfl (fun z => absurd z (by decide +kernel)) (fun _ => ?_)
  refine g_aload_n (n := 1) dX4_init_74 rfl rfl ?_
  refine g_get (ci := 4) (N := 8) (i := 2) (q0 := 0) (T := TX4) (C := RX4) (fs := [.ref q0, .ref q1, .ref q2, .ref q3, .ref q4, .ref (fx5 0), .ref (fx6 0), .int 0]) (v := .ref q2) rfl rfl inT4 (by decide) wf_X4_18 rfl rfl dX4_init_75 ?_
  refine g_iload_n (n := 0) dX4_init_78 rfl rfl ?_
  refine g_iload_n (n := 0) dX4_init_79 rfl rfl ?_
  refine g_iast2 (q0 := 3) (n := 6) (kN := 0) (f := (fun _ => 0)) (ws' := ([(h0, .inr (4, [.ref q0, .ref q1, .ref q2, .ref q3, .ref q4, .ref (fx5 0), .ref (fx6 0), .int 0])), (q0, .inl (gI Γ, 6, .inl (fun _ => 0))), (q1, .inl (gI Γ, 6, .inl (fun _ => 0))), (q2, .inl (gI Γ, 6, .inl (upd (fun _ => 0) 0 0))), (q3, .inl (gI Γ, 36, .inl (fun _ => 0))), (q4, .inl (gI Γ, 6, .inl (fun _ => 0)))] ++ wX0 (gI Γ) fx5 ++ wX3 (gI Γ) fx6)) rfl (by decide +kernel) (by decide +kernel) rfl dX4_init_80 ?_
  refine g_aload_n (n := 1) dX4_init_81 rfl rfl ?_
  refine g_get (ci := 4) (N := 8) (i := 3) (q0 := 0) (T := TX4) (C := RX4) (fs := [.ref q0, .ref q1, .ref q2, .ref q3, .ref q4, .ref (fx5 0), .ref (fx6 0), .int 0]) (v := .ref q3) rfl rfl inT4 (by decide) wf_X4_21 rfl rfl dX4_init_82 ?_
  refine g_iload_n (n := 0) dX4_init_85 rfl rfl ?_
  refine g_bipush (v := 6) dX4_init_86 (by decide +kernel) ?_
  refine g_imul dX4_init_88 ?_
  refine g_iload_n (n := 0) dX4_init_89 rfl rfl ?_
  refine g_iadd dX4_init_90 ?_
  refine g_bipush (v := 64) dX4_init_91 (by decide +kernel) ?_
  refine g_iast2 (q0 := 4) (n := 36) (kN := 0) (f := (fun _ => 0)) (ws' := ([(h0, .inr (4, [.ref q0, .ref q1, .ref q2, .ref q3, .ref q4, .ref (fx5 0), .ref (fx6 0), .int 0])), (q0, .inl (gI Γ, 6, .inl (fun _ => 0))), (q1, .inl (gI Γ, 6, .inl (fun _ => 0))), (q2, .inl (gI Γ, 6, .inl (upd (fun _ => 0) 0 0))), (q3, .inl (gI Γ, 36, .inl (upd (fun _ => 0) 0 64))), (q4, .inl (gI Γ, 6, .inl (fun _ => 0)))] ++ wX0 (gI Γ) fx5 ++ wX3 (gI Γ) fx6)) rfl (by decide +kernel) (by decide +kernel) rfl dX4_init_93 ?_
  refine g_iinc (n := 0) (v := 1) dX4_init_94 rfl (by decide +kernel) (by decide) rfl ?_
  refine g_goto (tgt := 68) dX4_init_97 rfl ?_
  refine g_iload_n (n := 0) dX4_init_68 rfl rfl ?_
  refine g_bipush (v := 6) dX4_init_69 (by decide +kernel) ?_
  refine g_icmp_ge (tgt := 100) dX4_init_71 rfl (fun z => absurd z (by decide +kernel)) (fun _ => ?_)
  refine g_aload_n (n := 1) dX4_init_74 rfl rfl ?_
  refine g_get (ci := 4) (N := 8) (i := 2) (q0 := 0) (T := TX4) (C := RX4) (fs := [.ref q0, .ref q1, .ref q2, .ref q3, .ref q4, .ref (fx5 0), .ref (fx6 0), .int 0]) (v := .ref q2) rfl rfl inT4 (by decide) wf_X4_18 rfl rfl dX4_init_75 ?_
  refine g_iload_n (n := 0) dX4_init_78 rfl rfl ?_
  refine g_iload_n (n := 0) dX4_init_79 rfl rfl ?_
  refine g_iast2 (q0 := 3) (n := 6) (kN := 1) (f := (upd (fun _ => 0) 0 0)) (ws' := ([(h0, .inr (4, [.ref q0, .ref q1, .ref q2, .ref q3, .ref q4, .ref (fx5 0), .ref (fx6 0), .int 0])), (q0, .inl (gI Γ, 6, .inl (fun _ => 0))), (q1, .inl (gI Γ, 6, .inl (fun _ => 0))), (q2, .inl (gI Γ, 6, .inl (upd (upd (fun _ => 0) 0 0) 1 1))), (q3, .inl (gI Γ, 36, .inl (upd (fun _ => 0) 0 64))), (q4, .inl (gI Γ, 6, .inl (fun _ => 0)))] ++ wX0 (gI Γ) fx5 ++ wX3 (gI Γ) fx6)) rfl (by decide +kernel) (by decide +kernel) rfl dX4_init_80 ?_
  refine g_aload_n (n := 1) dX4_init_81 rfl rfl ?_
  refine g_get (ci := 4) (N := 8) (i := 3) (q0 := 0) (T := TX4) (C := RX4) (fs := [.ref q0, .ref q1, .ref q2, .ref q3, .ref q4, .ref (fx5 0), .ref (fx6 0), .int 0]) (v := .ref q3) rfl rfl inT4 (by decide) wf_X4_21 rfl rfl dX4_init_82 ?_
  refine g_iload_n (n := 0) dX4_init_85 rfl rfl ?_
  refine g_bipush (v := 6) dX4_init_86 (by decide +kernel) ?_
  refine g_imul dX4_init_88 ?_
  refine g_iload_n (n := 0) dX4_init_89 rfl rfl ?_
  refine g_iadd dX4_init_90 ?_
  refine g_bipush (v := 64) dX4_init_91 (by decide +kernel) ?_
  refine g_iast2 (q0 := 4) (n := 36) (kN := 7) (f := (upd (fun _ => 0) 0 64)) (ws' := ([(h0, .inr (4, [.ref q0, .ref q1, .ref q2, .ref q3, .ref q4, .ref (fx5 0), .ref (fx6 0), .int 0])), (q0, .inl (gI Γ, 6, .inl (fun _ => 0))), (q1, .inl (gI Γ, 6, .inl (fun _ => 0))), (q2, .inl (gI Γ, 6, .inl (upd (upd (fun _ => 0) 0 0) 1 1))), (q3, .inl (gI Γ, 36, .inl (upd (upd (fun _ => 0) 0 64) 7 64))), (q4, .inl (gI Γ, 6, .inl (fun _ => 0)))] ++ wX0 (gI Γ) fx5 ++ wX3 (gI Γ) fx6)) rfl (by decide +kernel) (by decide +kernel) rfl dX4_init_93 ?_
  refine g_iinc (n := 0) (v := 2) dX4_init_94 rfl (by decide +kernel) (by decide) rfl ?_
  refine g_goto (tgt := 68) dX4_init_97 rfl ?_
  refine g_iload_n (n := 0) dX4_init_68 rfl rfl ?_
  refine g_bipush (v := 6) dX4_init_69 (by decide +kernel) ?_
  refine g_icmp_ge (tgt := 100) dX4_init_71 rfl (fun z => absurd z (by decide +kernel)) (fun _ => ?_)
  refine g_aload_n (n := 1) dX4_init_74 rfl rfl ?_
  refine g_get (ci := 4) (N := 8) (i := 2) (q0 := 0) (T := TX4) (C := RX4) (fs := [.ref q0, .ref q1, .ref q2, .ref q3, .ref q4, .ref (fx5 0), .ref (fx6 0), .int 0]) (v := .ref q2) rfl rfl inT4 (by decide) wf_X4_18 rfl rfl dX4_init_75 ?_
  refine g_iload_n (n := 0) dX4_init_78 rfl rfl ?_
  refine g_iload_n (n := 0) dX4_init_79 rfl rfl ?_
  refine g_iast2 (q0 := 3) (n := 6) (kN := 2) (f := (upd (upd (fun _ => 0) 0 0) 1 1)) (ws' := ([(h0, .inr (4, [.ref q0, .ref q1, .ref q2, .ref q3, .ref q4, .ref (fx5 0), .ref (fx6 0), .int 0])), (q0, .inl (gI Γ, 6, .inl (fun _ => 0))), (q1, .inl (gI Γ, 6, .inl (fun _ => 0))), (q2, .inl (gI Γ, 6, .inl (upd (upd (upd (fun _ => 0) 0 0) 1 1) 2 2))), (q3, .inl (gI Γ, 36, .inl (upd (upd (fun _ => 0) 0 64) 7 64))), (q4, .inl (gI Γ, 6, .inl (fun _ => 0)))] ++ wX0 (gI Γ) fx5 ++ wX3 (gI Γ) fx6)) rfl (by decide +kernel) (by decide +kernel) rfl dX4_init_80 ?_
  refine g_aload_n (n := 1) dX4_init_81 rfl rfl ?_
  refine g_get (ci := 4) (N := 8) (i := 3) (q0 := 0) (T := TX4) (C := RX4) (fs := [.ref q0, .ref q1, .ref q2, .ref q3, .ref q4, .ref (fx5 0), .ref (fx6 0), .int 0]) (v := .ref q3) rfl rfl inT4 (by decide) wf_X4_21 rfl rfl dX4_init_82 ?_
  refine g_iload_n (n := 0) dX4_init_85 rfl rfl ?_
  refine g_bipush (v := 6) dX4_init_86 (by decide +kernel) ?_
  refine g_imul dX4_init_88 ?_
  refine g_iload_n (n := 0) dX4_init_89 rfl rfl ?_
  refine g_iadd dX4_init_90 ?_
  refine g_bipush (v := 64) dX4_init_91 (by decide +kernel) ?_
  refine g_iast2 (q0 := 4) (n := 36) (kN := 14) (f := (upd (upd (fun _ => 0) 0 64) 7 64)) (ws' := ([(h0, .inr (4, [.ref q0, .ref q1, .ref q2, .ref q3, .ref q4, .ref (fx5 0), .ref (fx6 0), .int 0])), (q0, .inl (gI Γ, 6, .inl (fun _ => 0))), (q1, .inl (gI Γ, 6, .inl (fun _ => 0))), (q2, .inl (gI Γ, 6, .inl (upd (upd (upd (fun _ => 0) 0 0) 1 1) 2 2))), (q3, .inl (gI Γ, 36, .inl (upd (upd (upd (fun _ => 0) 0 64) 7 64) 14 64))), (q4, .inl (gI Γ, 6, .inl (fun _ => 0)))] ++ wX0 (gI Γ) fx5 ++ wX3 (gI Γ) fx6)) rfl (by decide +kernel) (by decide +kernel) rfl dX4_init_93 ?_
  refine g_iinc (n := 0) (v := 3) dX4_init_94 rfl (by decide +kernel) (by decide) rfl ?_
  refine g_goto (tgt := 68) dX4_init_97 rfl ?_
  refine g_iload_n (n := 0) dX4_init_68 rfl rfl ?_
  refine g_bipush (v := 6) dX4_init_69 (by decide +kernel) ?_
  refine g_icmp_ge (tgt := 100) dX4_init_71 rfl (fun z => absurd z (by decide +kernel)) (fun _ => ?_)
  refine g_aload_n (n := 1) dX4_init_74 rfl rfl ?_
  refine g_get (ci := 4) (N := 8) (i := 2) (q0 := 0) (T := TX4) (C := RX4) (fs := [.ref q0, .ref q1, .ref q2, .ref q3, .ref q4, .ref (fx5 0), .ref (fx6 0), .int 0]) (v := .ref q2) rfl rfl inT4 (by decide) wf_X4_18 rfl rfl dX4_init_75 ?_
  refine g_iload_n (n := 0) dX4_init_78 rfl rfl ?_
  refine g_iload_n (n := 0) dX4_init_79 rfl rfl ?_
  refine g_iast2 (q0 := 3) (n := 6) (kN := 3) (f := (upd (upd (upd (fun _ => 0) 0 0) 1 1) 2 2)) (ws' := ([(h0, .inr (4, [.ref q0, .ref q1, .ref q2, .ref q3, .ref q4, .ref (fx5 0), .ref (fx6 0), .int 0])), (q0, .inl (gI Γ, 6, .inl (fun _ => 0))), (q1, .inl (gI Γ, 6, .inl (fun _ => 0))), (q2, .inl (gI Γ, 6, .inl (upd (upd (upd (upd (fun _ => 0) 0 0) 1 1) 2 2) 3 3))), (q3, .inl (gI Γ, 36, .inl (upd (upd (upd (fun _ => 0) 0 64) 7 64) 14 64))), (q4, .inl (gI Γ, 6, .inl (fun _ => 0)))] ++ wX0 (gI Γ) fx5 ++ wX3 (gI Γ) fx6)) rfl (by decide +kernel) (by decide +kernel) rfl dX4_init_80 ?_
  refine g_aload_n (n := 1) dX4_init_81 rfl rfl ?_
  refine g_get (ci := 4) (N := 8) (i := 3) (q0 := 0) (T := TX4) (C := RX4) (fs := [.ref q0, .ref q1, .ref q2, .ref q3, .ref q4, .ref (fx5 0), .ref (fx6 0), .int 0]) (v := .ref q3) rfl rfl inT4 (by decide) wf_X4_21 rfl rfl dX4_init_82 ?_
  refine g_iload_n (n := 0) dX4_init_85 rfl rfl ?_
  refine g_bipush (v := 6) dX4_init_86 (by decide +kernel) ?_
  refine g_imul dX4_init_88 ?_
  refine g_iload_n (n := 0) dX4_init_89 rfl rfl ?_
  refine g_iadd dX4_init_90 ?_
  refine g_bipush (v := 64) dX4_init_91 (by decide +kernel) ?_
  refine g_iast2 (q0 := 4) (n := 36) (kN := 21) (f := (upd (upd (upd (fun _ => 0) 0 64) 7 64) 14 64)) (ws' := ([(h0, .inr (4, [.ref q0, .ref q1, .ref q2, .ref q3, .ref q4, .ref (fx5 0), .ref (fx6 0), .int 0])), (q0, .inl (gI Γ, 6, .inl (fun _ => 0))), (q1, .inl (gI Γ, 6, .inl (fun _ => 0))), (q2, .inl (gI Γ, 6, .inl (upd (upd (upd (upd (fun _ => 0) 0 0) 1 1) 2 2) 3 3))), (q3, .inl (gI Γ, 36, .inl (upd (upd (upd (upd (fun _ => 0) 0 64) 7 64) 14 64) 21 64))), (q4, .inl (gI Γ, 6, .inl (fun _ => 0)))] ++ wX0 (gI Γ) fx5 ++ wX3 (gI Γ) fx6)) rfl (by decide +kernel) (by decide +kernel) rfl dX4_init_93 ?_
  refine g_iinc (n := 0) (v := 4) dX4_init_94 rfl (by decide +kernel) (by decide) rfl ?_
  refine g_goto (tgt := 68) dX4_init_97 rfl ?_
  refine g_iload_n (n := 0) dX4_init_68 rfl rfl ?_
  refine g_bipush (v := 6) dX4_init_69 (by decide +kernel) ?_
  refine g_icmp_ge (tgt := 100) dX4_init_71 rfl (fun z => absurd z (by decide +kernel)) (fun _ => ?_)
  refine g_aload_n (n := 1) dX4_init_74 rfl rfl ?_
  refine g_get (ci := 4) (N := 8) (i := 2) (q0 := 0) (T := TX4) (C := RX4) (fs := [.ref q0, .ref q1, .ref q2, .ref q3, .ref q4, .ref (fx5 0), .ref (fx6 0), .int 0]) (v := .ref q2) rfl rfl inT4 (by decide) wf_X4_18 rfl rfl dX4_init_75 ?_
  refine g_iload_n (n := 0) dX4_init_78 rfl rfl ?_
  refine g_iload_n (n := 0) dX4_init_79 rfl rfl ?_
  refine g_iast2 (q0 := 3) (n := 6) (kN := 4) (f := (upd (upd (upd (upd (fun _ => 0) 0 0) 1 1) 2 2) 3 3)) (ws' := ([(h0, .inr (4, [.ref q0, .ref q1, .ref q2, .ref q3, .ref q4, .ref (fx5 0), .ref (fx6 0), .int 0])), (q0, .inl (gI Γ, 6, .inl (fun _ => 0))), (q1, .inl (gI Γ, 6, .inl (fun _ => 0))), (q2, .inl (gI Γ, 6, .inl (upd (upd (upd (upd (upd (fun _ => 0) 0 0) 1 1) 2 2) 3 3) 4 4))), (q3, .inl (gI Γ, 36, .inl (upd (upd (upd (upd (fun _ => 0) 0 64) 7 64) 14 64) 21 64))), (q4, .inl (gI Γ, 6, .inl (fun _ => 0)))] ++ wX0 (gI Γ) fx5 ++ wX3 (gI Γ) fx6)) rfl (by decide +kernel) (by decide +kernel) rfl dX4_init_80 ?_
  refine g_aload_n (n := 1) dX4_init_81 rfl rfl ?_
  refine g_get (ci := 4) (N := 8) (i := 3) (q0 := 0) (T := TX4) (C := RX4) (fs := [.ref q0, .ref q1, .ref q2, .ref q3, .ref q4, .ref (fx5 0), .ref (fx6 0), .int 0]) (v := .ref q3) rfl rfl inT4 (by decide) wf_X4_21 rfl rfl dX4_init_82 ?_
  refine g_iload_n (n := 0) dX4_init_85 rfl rfl ?_
  refine g_bipush (v := 6) dX4_init_86 (by decide +kernel) ?_
  refine g_imul dX4_init_88 ?_
  refine g_iload_n (n := 0) dX4_init_89 rfl rfl ?_
  refine g_iadd dX4_init_90 ?_
  refine g_bipush (v := 64) dX4_init_91 (by decide +kernel) ?_
  refine g_iast2 (q0 := 4) (n := 36) (kN := 28) (f := (upd (upd (upd (upd (fun _ => 0) 0 64) 7 64) 14 64) 21 64)) (ws' := ([(h0, .inr (4, [.ref q0, .ref q1, .ref q2, .ref q3, .ref q4, .ref (fx5 0), .ref (fx6 0), .int 0])), (q0, .inl (gI Γ, 6, .inl (fun _ => 0))), (q1, .inl (gI Γ, 6, .inl (fun _ => 0))), (q2, .inl (gI Γ, 6, .inl (upd (upd (upd (upd (upd (fun _ => 0) 0 0) 1 1) 2 2) 3 3) 4 4))), (q3, .inl (gI Γ, 36, .inl (upd (upd (upd (upd (upd (fun _ => 0) 0 64) 7 64) 14 64) 21 64) 28 64))), (q4, .inl (gI Γ, 6, .inl (fun _ => 0)))] ++ wX0 (gI Γ) fx5 ++ wX3 (gI Γ) fx6)) rfl (by decide +kernel) (by decide +kernel) rfl dX4_init_93 ?_
  refine g_iinc (n := 0) (v := 5) dX4_init_94 rfl (by decide +kernel) (by decide) rfl ?_
  refine g_goto (tgt := 68) dX4_init_97 rfl ?_
  refine g_iload_n (n := 0) dX4_init_68 rfl rfl ?_
  refine g_bipush (v := 6) dX4_init_69 (by decide +kernel) ?_
  refine g_icmp_ge (tgt := 100) dX4_init_71 rfl (fun z => absurd z (by decide +kernel)) (fun _ => ?_)
  refine g_aload_n (n := 1) dX4_init_74 rfl rfl ?_
  refine g_get (ci := 4) (N := 8) (i := 2) (q0 := 0) (T := TX4) (C := RX4) (fs := [.ref q0, .ref q1, .ref q2, .ref q3, .ref q4, .ref (fx5 0), .ref (fx6 0), .int 0]) (v := .ref q2) rfl rfl inT4 (by decide) wf_X4_18 rfl rfl dX4_init_75 ?_
  refine g_iload_n (n := 0) dX4_init_78 rfl rfl ?_
  refine g_iload_n (n := 0) dX4_init_79 rfl rfl ?_
  refine g_iast2 (q0 := 3) (n := 6) (kN := 5) (f := (upd (upd (upd (upd (upd (fun _ => 0) 0 0) 1 1) 2 2) 3 3) 4 4)) (ws' := ([(h0, .inr (4, [.ref q0, .ref q1, .ref q2, .ref q3, .ref q4, .ref (fx5 0), .ref (fx6 0), .int 0])), (q0, .inl (gI Γ, 6, .inl (fun _ => 0))), (q1, .inl (gI Γ, 6, .inl (fun _ => 0))), (q2, .inl (gI Γ, 6, .inl (upd (upd (upd (upd (upd (upd (fun _ => 0) 0 0) 1 1) 2 2) 3 3) 4 4) 5 5))), (q3, .inl (gI Γ, 36, .inl (upd (upd (upd (upd (upd (fun _ => 0) 0 64) 7 64) 14 64) 21 64) 28 64))), (q4, .inl (gI Γ, 6, .inl (fun _ => 0)))] ++ wX0 (gI Γ) fx5 ++ wX3 (gI Γ) fx6)) rfl (by decide +kernel) (by decide +kernel) rfl dX4_init_80 ?_
  refine g_aload_n (n := 1) dX4_init_81 rfl rfl ?_
  refine g_get (ci := 4) (N := 8) (i := 3) (q0 := 0) (T := TX4) (C := RX4) (fs := [.ref q0, .ref q1, .ref q2, .ref q3, .ref q4, .ref (fx5 0), .ref (fx6 0), .int 0]) (v := .ref q3) rfl rfl inT4 (by decide) wf_X4_21 rfl rfl dX4_init_82 ?_
  refine g_iload_n (n := 0) dX4_init_85 rfl rfl ?_
  refine g_bipush (v := 6) dX4_init_86 (by decide +kernel) ?_
  refine g_imul dX4_init_88 ?_
  refine g_iload_n (n := 0) dX4_init_89 rfl rfl ?_
  refine g_iadd dX4_init_90 ?_
  refine g_bipush (v := 64) dX4_init_91 (by decide +kernel) ?_
  refine g_iast2 (q0 := 4) (n := 36) (kN := 35) (f := (upd (upd (upd (upd (upd (fun _ => 0) 0 64) 7 64) 14 64) 21 64) 28 64)) (ws' := ([(h0, .inr (4, [.ref q0, .ref q1, .ref q2, .ref q3, .ref q4, .ref (fx5 0), .ref (fx6 0), .int 0])), (q0, .inl (gI Γ, 6, .inl (fun _ => 0))), (q1, .inl (gI Γ, 6, .inl (fun _ => 0))), (q2, .inl (gI Γ, 6, .inl (upd (upd (upd (upd (upd (upd (fun _ => 0) 0 0) 1 1) 2 2) 3 3) 4 4) 5 5))), (q3, .inl (gI Γ, 36, .inl (upd (upd (upd (upd (upd (upd (fun _ => 0) 0 64) 7 64) 14 64) 21 64) 28 64) 35 64))), (q4, .inl (gI Γ, 6, .inl (fun _ => 0)))] ++ wX0 (gI Γ) fx5 ++ wX3 (gI Γ) fx6)) rfl (by decide +kernel) (by decide +kernel) rfl dX4_init_93 ?_
  refine g_iinc (n := 0) (v := 6) dX4_init_94 rfl (by decide +kernel) (by decide) rfl ?_
  refine g_goto (tgt := 68) dX4_init_97 rfl ?_
  refine g_iload_n (n := 0) dX4_init_68 rfl rfl ?_
  refine g_bipush (v := 6) dX4_init_69 (by decide +kernel) ?_
  refine g_icmp_ge (tgt := 100) dX4_init_71 rfl (fun _ => ?_) (fun z => absurd (by decide +kernel) z)
  exact kk _ _ ⟨(gI Γ, gB Γ, gS Γ), rfl, rfl, rfl, (fun k => [h0, q0, q1, q2, q3, q4, (fx5 0), (fx5 1), (fx5 2), (fx6 0), (fx6 1), (fx6 2), (fx6 3), (fx6 4), (fx6 5)].getD k 0), rfl, rfl⟩
def wX2 (cI cS : ClassId) (q : Nat → Nat) : va_W := [(q 0, .inr (2, [.ref (q 1), .int 0, .int 0])), (q 1, .inl (cS, 5, .inr (.inr (.inr (.inr (va_up (va_up (va_up (va_up (va_up (fun _ => none) 0 (some (q 2))) 1 (some (q 17))) 2 (some (q 32))) 3 (some (q 47))) 4 (some (q 62))))))))] ++ wX4 cI (fun j => q (2 + j)) ++ wX4 cI (fun j => q (17 + j)) ++ wX4 cI (fun j => q (32 + j)) ++ wX4 cI (fun j => q (47 + j)) ++ wX4 cI (fun j => q (62 + j))
def PX2 (Z : gZ) (h0 : Nat) (w1 : va_W) : Prop := ∃ q : Nat → Nat, q 0 = h0 ∧ w1 = wX2 Z.1 Z.2.2 q
set_option maxRecDepth 20000 in
theorem c_X2_init : gSp 4 76 1605 mX2_init 2 [.null, .int 0, .int 0] PX2 := by
  refine gSp_of (by decide +kernel) (Nat.le_of_ble_eq_true rfl) rfl rfl dX2_init_38 ?_
  intro Γ h0 hI kk
  refine g_aload_n (n := 0) dX2_init_0 rfl rfl ?_
  refine g_obj wl_X2_3 ⟨Nat.le_of_ble_eq_true rfl, Nat.le_of_ble_eq_true rfl⟩ dX2_init_1 ?_
  refine g_aload_n (n := 0) dX2_init_4 rfl rfl ?_
  refine g_iconst (v := 5) dX2_init_5 (by decide +kernel) ?_
  refine g_newaS (N := 5) wk_X2_11 ⟨by decide +kernel, by decide +kernel⟩ (Nat.le_of_ble_eq_true rfl) ⟨Nat.le_of_ble_eq_true rfl, Nat.le_of_ble_eq_true rfl⟩ dX2_init_6 ?_
  intro q0
  refine g_putF (ci := 2) (N := 3) (i := 0) (q0 := 0) (T := TX2) (C := RX2) (ty := .array (.object "LentParts$State")) (fs := [.null, .int 0, .int 0]) (v := .ref q0) (ws' := [(h0, .inr (2, [.ref q0, .int 0, .int 0])), (q0, .inl (gS Γ, 5, .inr (.inr (.inr (.inr (fun _ => none))))))]) hI rfl rfl inT2 tyX2 tyX2_ok nmX2 (by decide) wf_X2_13 rfl rfl rfl (by decide +kernel) rfl rfl (Nat.le_of_ble_eq_true rfl) rfl dX2_init_9 ?_
  refine g_iconst (v := 0) dX2_init_12 (by decide +kernel) ?_
  refine g_istore_n dX2_init_13 rfl (by decide) rfl ?_
  refine g_iload_n (n := 0) dX2_init_14 rfl rfl ?_
  refine g_iconst (v := 5) dX2_init_15 (by decide +kernel) ?_
  refine g_icmp_ge (tgt := 38) dX2_init_16 rfl (fun z => absurd z (by decide +kernel)) (fun _ => ?_)
  refine g_aload_n (n := 1) dX2_init_19 rfl rfl ?_
  refine g_get (ci := 2) (N := 3) (i := 0) (q0 := 0) (T := TX2) (C := RX2) (fs := [.ref q0, .int 0, .int 0]) (v := .ref q0) rfl rfl inT2 (by decide) wf_X2_13 rfl rfl dX2_init_20 ?_
  refine g_iload_n (n := 0) dX2_init_23 rfl rfl ?_
  refine g_new (ci := 4) (fs := [.null, .null, .null, .null, .null, .null, .null, .int 0]) (C := RX4) (T := TX4) (N := 8) rfl inT4 tyX4 tyX4_ok wk_X2_11 wn_X4 wz_X4 (fun j hj => by
    rcases (show j = 0 ∨ j = 1 ∨ j = 2 ∨ j = 3 ∨ j = 4 ∨ j = 5 ∨ j = 6 ∨ j = 7 by omega) with e | e | e | e | e | e | e | e <;> rw [e] <;> rfl) ⟨Nat.le_of_ble_eq_true rfl, Nat.le_of_ble_eq_true rfl⟩ dX2_init_24 ?_
  intro x1
  refine g_dup dX2_init_27 rfl ?_
  refine g_init c_X4_init wm_X4_init wii_X4 ⟨rfl, rfl⟩ ⟨Nat.le_of_ble_eq_true rfl, Nat.le_of_ble_eq_true rfl⟩ ⟨Nat.le_of_ble_eq_true rfl, Nat.le_of_ble_eq_true rfl⟩ wl_X2_17 (Nat.le_of_ble_eq_true rfl) dX2_init_28 ?_
  rintro w1 ⟨Z, z1, z2, z3, fx1, hq, hw⟩
  rw [z1] at hw
  subst hw
  subst hq
  refine g_astq2 (q0 := 1) (qk := 2) (n := 5) (kN := 0) (f := (fun _ => none)) (ws' := ([(h0, .inr (2, [.ref q0, .int 0, .int 0])), (q0, .inl (gS Γ, 5, .inr (.inr (.inr (.inr (va_up (fun _ => none) 0 (some (fx1 0))))))))] ++ wX4 (gI Γ) fx1)) rfl rfl (by decide +kernel) (by decide +kernel) rfl dX2_init_31 ?_
  refine g_iinc (n := 0) (v := 1) dX2_init_32 rfl (by decide +kernel) (by decide) rfl ?_
  refine g_goto (tgt := 14) dX2_init_35 rfl ?_
  refine g_iload_n (n := 0) dX2_init_14 rfl rfl ?_
  refine g_iconst (v := 5) dX2_init_15 (by decide +kernel) ?_
  refine g_icmp_ge (tgt := 38) dX2_init_16 rfl (fun z => absurd z (by decide +kernel)) (fun _ => ?_)
  refine g_aload_n (n := 1) dX2_init_19 rfl rfl ?_
  refine g_get (ci := 2) (N := 3) (i := 0) (q0 := 0) (T := TX2) (C := RX2) (fs := [.ref q0, .int 0, .int 0]) (v := .ref q0) rfl rfl inT2 (by decide) wf_X2_13 rfl rfl dX2_init_20 ?_
  refine g_iload_n (n := 0) dX2_init_23 rfl rfl ?_
  refine g_new (ci := 4) (fs := [.null, .null, .null, .null, .null, .null, .null, .int 0]) (C := RX4) (T := TX4) (N := 8) rfl inT4 tyX4 tyX4_ok wk_X2_11 wn_X4 wz_X4 (fun j hj => by
    rcases (show j = 0 ∨ j = 1 ∨ j = 2 ∨ j = 3 ∨ j = 4 ∨ j = 5 ∨ j = 6 ∨ j = 7 by omega) with e | e | e | e | e | e | e | e <;> rw [e] <;> rfl) ⟨Nat.le_of_ble_eq_true rfl, Nat.le_of_ble_eq_true rfl⟩ dX2_init_24 ?_
  intro x2
  refine g_dup dX2_init_27 rfl ?_
  refine g_init c_X4_init wm_X4_init wii_X4 ⟨rfl, rfl⟩ ⟨Nat.le_of_ble_eq_true rfl, Nat.le_of_ble_eq_true rfl⟩ ⟨Nat.le_of_ble_eq_true rfl, Nat.le_of_ble_eq_true rfl⟩ wl_X2_17 (Nat.le_of_ble_eq_true rfl) dX2_init_28 ?_
  rintro w1 ⟨Z, z1, z2, z3, fx2, hq, hw⟩
  rw [z1] at hw
  subst hw
  subst hq
  refine g_astq2 (q0 := 1) (qk := 17) (n := 5) (kN := 1) (f := (va_up (fun _ => none) 0 (some (fx1 0)))) (ws' := ([(h0, .inr (2, [.ref q0, .int 0, .int 0])), (q0, .inl (gS Γ, 5, .inr (.inr (.inr (.inr (va_up (va_up (fun _ => none) 0 (some (fx1 0))) 1 (some (fx2 0))))))))] ++ wX4 (gI Γ) fx1 ++ wX4 (gI Γ) fx2)) rfl rfl (by decide +kernel) (by decide +kernel) rfl dX2_init_31 ?_
  refine g_iinc (n := 0) (v := 2) dX2_init_32 rfl (by decide +kernel) (by decide) rfl ?_
  refine g_goto (tgt := 14) dX2_init_35 rfl ?_
  refine g_iload_n (n := 0) dX2_init_14 rfl rfl ?_
  refine g_iconst (v := 5) dX2_init_15 (by decide +kernel) ?_
  refine g_icmp_ge (tgt := 38) dX2_init_16 rfl (fun z => absurd z (by decide +kernel)) (fun _ => ?_)
  refine g_aload_n (n := 1) dX2_init_19 rfl rfl ?_
  refine g_get (ci := 2) (N := 3) (i := 0) (q0 := 0) (T := TX2) (C := RX2) (fs := [.ref q0, .int 0, .int 0]) (v := .ref q0) rfl rfl inT2 (by decide) wf_X2_13 rfl rfl dX2_init_20 ?_
  refine g_iload_n (n := 0) dX2_init_23 rfl rfl ?_
  refine g_new (ci := 4) (fs := [.null, .null, .null, .null, .null, .null, .null, .int 0]) (C := RX4) (T := TX4) (N := 8) rfl inT4 tyX4 tyX4_ok wk_X2_11 wn_X4 wz_X4 (fun j hj => by
    rcases (show j = 0 ∨ j = 1 ∨ j = 2 ∨ j = 3 ∨ j = 4 ∨ j = 5 ∨ j = 6 ∨ j = 7 by omega) with e | e | e | e | e | e | e | e <;> rw [e] <;> rfl) ⟨Nat.le_of_ble_eq_true rfl, Nat.le_of_ble_eq_true rfl⟩ dX2_init_24 ?_
  intro x3
  refine g_dup dX2_init_27 rfl ?_
  refine g_init c_X4_init wm_X4_init wii_X4 ⟨rfl, rfl⟩ ⟨Nat.le_of_ble_eq_true rfl, Nat.le_of_ble_eq_true rfl⟩ ⟨Nat.le_of_ble_eq_true rfl, Nat.le_of_ble_eq_true rfl⟩ wl_X2_17 (Nat.le_of_ble_eq_true rfl) dX2_init_28 ?_
  rintro w1 ⟨Z, z1, z2, z3, fx3, hq, hw⟩
  rw [z1] at hw
  subst hw
  subst hq
  refine g_astq2 (q0 := 1) (qk := 32) (n := 5) (kN := 2) (f := (va_up (va_up (fun _ => none) 0 (some (fx1 0))) 1 (some (fx2 0)))) (ws' := ([(h0, .inr (2, [.ref q0, .int 0, .int 0])), (q0, .inl (gS Γ, 5, .inr (.inr (.inr (.inr (va_up (va_up (va_up (fun _ => none) 0 (some (fx1 0))) 1 (some (fx2 0))) 2 (some (fx3 0))))))))] ++ wX4 (gI Γ) fx1 ++ wX4 (gI Γ) fx2 ++ wX4 (gI Γ) fx3)) rfl rfl (by decide +kernel) (by decide +kernel) rfl dX2_init_31 ?_
  refine g_iinc (n := 0) (v := 3) dX2_init_32 rfl (by decide +kernel) (by decide) rfl ?_
  refine g_goto (tgt := 14) dX2_init_35 rfl ?_
  refine g_iload_n (n := 0) dX2_init_14 rfl rfl ?_
  refine g_iconst (v := 5) dX2_init_15 (by decide +kernel) ?_
  refine g_icmp_ge (tgt := 38) dX2_init_16 rfl (fun z => absurd z (by decide +kernel)) (fun _ => ?_)
  refine g_aload_n (n := 1) dX2_init_19 rfl rfl ?_
  refine g_get (ci := 2) (N := 3) (i := 0) (q0 := 0) (T := TX2) (C := RX2) (fs := [.ref q0, .int 0, .int 0]) (v := .ref q0) rfl rfl inT2 (by decide) wf_X2_13 rfl rfl dX2_init_20 ?_
  refine g_iload_n (n := 0) dX2_init_23 rfl rfl ?_
  refine g_new (ci := 4) (fs := [.null, .null, .null, .null, .null, .null, .null, .int 0]) (C := RX4) (T := TX4) (N := 8) rfl inT4 tyX4 tyX4_ok wk_X2_11 wn_X4 wz_X4 (fun j hj => by
    rcases (show j = 0 ∨ j = 1 ∨ j = 2 ∨ j = 3 ∨ j = 4 ∨ j = 5 ∨ j = 6 ∨ j = 7 by omega) with e | e | e | e | e | e | e | e <;> rw [e] <;> rfl) ⟨Nat.le_of_ble_eq_true rfl, Nat.le_of_ble_eq_true rfl⟩ dX2_init_24 ?_
  intro x4
  refine g_dup dX2_init_27 rfl ?_
  refine g_init c_X4_init wm_X4_init wii_X4 ⟨rfl, rfl⟩ ⟨Nat.le_of_ble_eq_true rfl, Nat.le_of_ble_eq_true rfl⟩ ⟨Nat.le_of_ble_eq_true rfl, Nat.le_of_ble_eq_true rfl⟩ wl_X2_17 (Nat.le_of_ble_eq_true rfl) dX2_init_28 ?_
  rintro w1 ⟨Z, z1, z2, z3, fx4, hq, hw⟩
  rw [z1] at hw
  subst hw
  subst hq
  refine g_astq2 (q0 := 1) (qk := 47) (n := 5) (kN := 3) (f := (va_up (va_up (va_up (fun _ => none) 0 (some (fx1 0))) 1 (some (fx2 0))) 2 (some (fx3 0)))) (ws' := ([(h0, .inr (2, [.ref q0, .int 0, .int 0])), (q0, .inl (gS Γ, 5, .inr (.inr (.inr (.inr (va_up (va_up (va_up (va_up (fun _ => none) 0 (some (fx1 0))) 1 (some (fx2 0))) 2 (some (fx3 0))) 3 (some (fx4 0))))))))] ++ wX4 (gI Γ) fx1 ++ wX4 (gI Γ) fx2 ++ wX4 (gI Γ) fx3 ++ wX4 (gI Γ) fx4)) rfl rfl (by decide +kernel) (by decide +kernel) rfl dX2_init_31 ?_
  refine g_iinc (n := 0) (v := 4) dX2_init_32 rfl (by decide +kernel) (by decide) rfl ?_
  refine g_goto (tgt := 14) dX2_init_35 rfl ?_
  refine g_iload_n (n := 0) dX2_init_14 rfl rfl ?_
  refine g_iconst (v := 5) dX2_init_15 (by decide +kernel) ?_
  refine g_icmp_ge (tgt := 38) dX2_init_16 rfl (fun z => absurd z (by decide +kernel)) (fun _ => ?_)
  refine g_aload_n (n := 1) dX2_init_19 rfl rfl ?_
  refine g_get (ci := 2) (N := 3) (i := 0) (q0 := 0) (T := TX2) (C := RX2) (fs := [.ref q0, .int 0, .int 0]) (v := .ref q0) rfl rfl inT2 (by decide) wf_X2_13 rfl rfl dX2_init_20 ?_
  refine g_iload_n (n := 0) dX2_init_23 rfl rfl ?_
  refine g_new (ci := 4) (fs := [.null, .null, .null, .null, .null, .null, .null, .int 0]) (C := RX4) (T := TX4) (N := 8) rfl inT4 tyX4 tyX4_ok wk_X2_11 wn_X4 wz_X4 (fun j hj => by
    rcases (show j = 0 ∨ j = 1 ∨ j = 2 ∨ j = 3 ∨ j = 4 ∨ j = 5 ∨ j = 6 ∨ j = 7 by omega) with e | e | e | e | e | e | e | e <;> rw [e] <;> rfl) ⟨Nat.le_of_ble_eq_true rfl, Nat.le_of_ble_eq_true rfl⟩ dX2_init_24 ?_
  intro x5
  refine g_dup dX2_init_27 rfl ?_
  refine g_init c_X4_init wm_X4_init wii_X4 ⟨rfl, rfl⟩ ⟨Nat.le_of_ble_eq_true rfl, Nat.le_of_ble_eq_true rfl⟩ ⟨Nat.le_of_ble_eq_true rfl, Nat.le_of_ble_eq_true rfl⟩ wl_X2_17 (Nat.le_of_ble_eq_true rfl) dX2_init_28 ?_
  rintro w1 ⟨Z, z1, z2, z3, fx5, hq, hw⟩
  rw [z1] at hw
  subst hw
  subst hq
  refine g_astq2 (q0 := 1) (qk := 62) (n := 5) (kN := 4) (f := (va_up (va_up (va_up (va_up (fun _ => none) 0 (some (fx1 0))) 1 (some (fx2 0))) 2 (some (fx3 0))) 3 (some (fx4 0)))) (ws' := ([(h0, .inr (2, [.ref q0, .int 0, .int 0])), (q0, .inl (gS Γ, 5, .inr (.inr (.inr (.inr (va_up (va_up (va_up (va_up (va_up (fun _ => none) 0 (some (fx1 0))) 1 (some (fx2 0))) 2 (some (fx3 0))) 3 (some (fx4 0))) 4 (some (fx5 0))))))))] ++ wX4 (gI Γ) fx1 ++ wX4 (gI Γ) fx2 ++ wX4 (gI Γ) fx3 ++ wX4 (gI Γ) fx4 ++ wX4 (gI Γ) fx5)) rfl rfl (by decide +kernel) (by decide +kernel) rfl dX2_init_31 ?_
  refine g_iinc (n := 0) (v := 5) dX2_init_32 rfl (by decide +kernel) (by decide) rfl ?_
  refine g_goto (tgt := 14) dX2_init_35 rfl ?_
  refine g_iload_n (n := 0) dX2_init_14 rfl rfl ?_
  refine g_iconst (v := 5) dX2_init_15 (by decide +kernel) ?_
  refine g_icmp_ge (tgt := 38) dX2_init_16 rfl (fun _ => ?_) (fun z => absurd (by decide +kernel) z)
  exact kk _ _ ⟨(gI Γ, gB Γ, gS Γ), rfl, rfl, rfl, (fun k => [h0, q0, (fx1 0), (fx1 1), (fx1 2), (fx1 3), (fx1 4), (fx1 5), (fx1 6), (fx1 7), (fx1 8), (fx1 9), (fx1 10), (fx1 11), (fx1 12), (fx1 13), (fx1 14), (fx2 0), (fx2 1), (fx2 2), (fx2 3), (fx2 4), (fx2 5), (fx2 6), (fx2 7), (fx2 8), (fx2 9), (fx2 10), (fx2 11), (fx2 12), (fx2 13), (fx2 14), (fx3 0), (fx3 1), (fx3 2), (fx3 3), (fx3 4), (fx3 5), (fx3 6), (fx3 7), (fx3 8), (fx3 9), (fx3 10), (fx3 11), (fx3 12), (fx3 13), (fx3 14), (fx4 0), (fx4 1), (fx4 2), (fx4 3), (fx4 4), (fx4 5), (fx4 6), (fx4 7), (fx4 8), (fx4 9), (fx4 10), (fx4 11), (fx4 12), (fx4 13), (fx4 14), (fx5 0), (fx5 1), (fx5 2), (fx5 3), (fx5 4), (fx5 5), (fx5 6), (fx5 7), (fx5 8), (fx5 9), (fx5 10), (fx5 11), (fx5 12), (fx5 13), (fx5 14)].getD k 0), rfl, rfl⟩
def wX6 (cI cS : ClassId) (q : Nat → Nat) : va_W := [(q 0, .inr (6, [.ref (q 1), .ref (q 16), .ref (q 31), .ref (q 46), .ref (q 123), .ref (q 125), .int 0, .int 0, .int 0, .int 0]))] ++ wX4 cI (fun j => q (1 + j)) ++ wX4 cI (fun j => q (16 + j)) ++ wX4 cI (fun j => q (31 + j)) ++ wX2 cI cS (fun j => q (46 + j)) ++ wX1 cI (fun j => q (123 + j)) ++ wX5 cI (fun j => q (125 + j))
def PX6 (Z : gZ) (h0 : Nat) (w1 : va_W) : Prop := ∃ q : Nat → Nat, q 0 = h0 ∧ w1 = wX6 Z.1 Z.2.2 q
set_option maxRecDepth 20000 in
theorem c_X6_init : gSp 5 127 3168 mX6_init 6 [.null, .null, .null, .null, .null, .null, .int 0, .int 0, .int 0, .int 0] PX6 := by
  refine gSp_of (by decide +kernel) (Nat.le_of_ble_eq_true rfl) rfl rfl dX6_init_70 ?_
  intro Γ h0 hI kk
  refine g_aload_n (n := 0) dX6_init_0 rfl rfl ?_
  refine g_obj wl_X6_1 ⟨Nat.le_of_ble_eq_true rfl, Nat.le_of_ble_eq_true rfl⟩ dX6_init_1 ?_
  refine g_aload_n (n := 0) dX6_init_4 rfl rfl ?_
  refine g_new (ci := 4) (fs := [.null, .null, .null, .null, .null, .null, .null, .int 0]) (C := RX4) (T := TX4) (N := 8) rfl inT4 tyX4 tyX4_ok wk_X6_7 wn_X4 wz_X4 (fun j hj => by
    rcases (show j = 0 ∨ j = 1 ∨ j = 2 ∨ j = 3 ∨ j = 4 ∨ j = 5 ∨ j = 6 ∨ j = 7 by omega) with e | e | e | e | e | e | e | e <;> rw [e] <;> rfl) ⟨Nat.le_of_ble_eq_true rfl, Nat.le_of_ble_eq_true rfl⟩ dX6_init_5 ?_
  intro x0
  refine g_dup dX6_init_8 rfl ?_
  refine g_init c_X4_init wm_X4_init wii_X4 ⟨rfl, rfl⟩ ⟨Nat.le_of_ble_eq_true rfl, Nat.le_of_ble_eq_true rfl⟩ ⟨Nat.le_of_ble_eq_true rfl, Nat.le_of_ble_eq_true rfl⟩ wl_X6_9 (Nat.le_of_ble_eq_true rfl) dX6_init_9 ?_
  rintro w1 ⟨Z, z1, z2, z3, fx0, hq, hw⟩
  rw [z1] at hw
  subst hw
  subst hq
  refine g_putF (ci := 6) (N := 10) (i := 0) (q0 := 0) (T := TX6) (C := RX6) (ty := .object "LentParts$State") (fs := [.null, .null, .null, .null, .null, .null, .int 0, .int 0, .int 0, .int 0]) (v := .ref (fx0 0)) (ws' := ([(h0, .inr (6, [.ref (fx0 0), .null, .null, .null, .null, .null, .int 0, .int 0, .int 0, .int 0]))] ++ wX4 (gI Γ) fx0)) hI rfl rfl inT6 tyX6 tyX6_ok nmX6 (by decide) wf_X6_10 rfl rfl rfl (by decide +kernel) rfl rfl (Nat.le_of_ble_eq_true rfl) rfl dX6_init_12 ?_
  refine g_aload_n (n := 0) dX6_init_15 rfl rfl ?_
  refine g_new (ci := 4) (fs := [.null, .null, .null, .null, .null, .null, .null, .int 0]) (C := RX4) (T := TX4) (N := 8) rfl inT4 tyX4 tyX4_ok wk_X6_7 wn_X4 wz_X4 (fun j hj => by
    rcases (show j = 0 ∨ j = 1 ∨ j = 2 ∨ j = 3 ∨ j = 4 ∨ j = 5 ∨ j = 6 ∨ j = 7 by omega) with e | e | e | e | e | e | e | e <;> rw [e] <;> rfl) ⟨Nat.le_of_ble_eq_true rfl, Nat.le_of_ble_eq_true rfl⟩ dX6_init_16 ?_
  intro x1
  refine g_dup dX6_init_19 rfl ?_
  refine g_init c_X4_init wm_X4_init wii_X4 ⟨rfl, rfl⟩ ⟨Nat.le_of_ble_eq_true rfl, Nat.le_of_ble_eq_true rfl⟩ ⟨Nat.le_of_ble_eq_true rfl, Nat.le_of_ble_eq_true rfl⟩ wl_X6_9 (Nat.le_of_ble_eq_true rfl) dX6_init_20 ?_
  rintro w1 ⟨Z, z1, z2, z3, fx1, hq, hw⟩
  rw [z1] at hw
  subst hw
  subst hq
  refine g_putF (ci := 6) (N := 10) (i := 1) (q0 := 0) (T := TX6) (C := RX6) (ty := .object "LentParts$State") (fs := [.ref (fx0 0), .null, .null, .null, .null, .null, .int 0, .int 0, .int 0, .int 0]) (v := .ref (fx1 0)) (ws' := ([(h0, .inr (6, [.ref (fx0 0), .ref (fx1 0), .null, .null, .null, .null, .int 0, .int 0, .int 0, .int 0]))] ++ wX4 (gI Γ) fx0 ++ wX4 (gI Γ) fx1)) hI rfl rfl inT6 tyX6 tyX6_ok nmX6 (by decide) wf_X6_16 rfl rfl rfl (by decide +kernel) rfl rfl (Nat.le_of_ble_eq_true rfl) rfl dX6_init_23 ?_
  refine g_aload_n (n := 0) dX6_init_26 rfl rfl ?_
  refine g_new (ci := 4) (fs := [.null, .null, .null, .null, .null, .null, .null, .int 0]) (C := RX4) (T := TX4) (N := 8) rfl inT4 tyX4 tyX4_ok wk_X6_7 wn_X4 wz_X4 (fun j hj => by
    rcases (show j = 0 ∨ j = 1 ∨ j = 2 ∨ j = 3 ∨ j = 4 ∨ j = 5 ∨ j = 6 ∨ j = 7 by omega) with e | e | e | e | e | e | e | e <;> rw [e] <;> rfl) ⟨Nat.le_of_ble_eq_true rfl, Nat.le_of_ble_eq_true rfl⟩ dX6_init_27 ?_
  intro x2
  refine g_dup dX6_init_30 rfl ?_
  refine g_init c_X4_init wm_X4_init wii_X4 ⟨rfl, rfl⟩ ⟨Nat.le_of_ble_eq_true rfl, Nat.le_of_ble_eq_true rfl⟩ ⟨Nat.le_of_ble_eq_true rfl, Nat.le_of_ble_eq_true rfl⟩ wl_X6_9 (Nat.le_of_ble_eq_true rfl) dX6_init_31 ?_
  rintro w1 ⟨Z, z1, z2, z3, fx2, hq, hw⟩
  rw [z1] at hw
  subst hw
  subst hq
  refine g_putF (ci := 6) (N := 10) (i := 2) (q0 := 0) (T := TX6) (C := RX6) (ty := .object "LentParts$State") (fs := [.ref (fx0 0), .ref (fx1 0), .null, .null, .null, .null, .int 0, .int 0, .int 0, .int 0]) (v := .ref (fx2 0)) (ws' := ([(h0, .inr (6, [.ref (fx0 0), .ref (fx1 0), .ref (fx2 0), .null, .null, .null, .int 0, .int 0, .int 0, .int 0]))] ++ wX4 (gI Γ) fx0 ++ wX4 (gI Γ) fx1 ++ wX4 (gI Γ) fx2)) hI rfl rfl inT6 tyX6 tyX6_ok nmX6 (by decide) wf_X6_19 rfl rfl rfl (by decide +kernel) rfl rfl (Nat.le_of_ble_eq_true rfl) rfl dX6_init_34 ?_
  refine g_aload_n (n := 0) dX6_init_37 rfl rfl ?_
  refine g_new (ci := 2) (fs := [.null, .int 0, .int 0]) (C := RX2) (T := TX2) (N := 3) rfl inT2 tyX2 tyX2_ok wk_X6_22 wn_X2 wz_X2 (fun j hj => by
    rcases (show j = 0 ∨ j = 1 ∨ j = 2 by omega) with e | e | e <;> rw [e] <;> rfl) ⟨Nat.le_of_ble_eq_true rfl, Nat.le_of_ble_eq_true rfl⟩ dX6_init_38 ?_
  intro x3
  refine g_dup dX6_init_41 rfl ?_
  refine g_init c_X2_init wm_X2_init wii_X2 ⟨rfl, rfl⟩ ⟨Nat.le_of_ble_eq_true rfl, Nat.le_of_ble_eq_true rfl⟩ ⟨Nat.le_of_ble_eq_true rfl, Nat.le_of_ble_eq_true rfl⟩ wl_X6_24 (Nat.le_of_ble_eq_true rfl) dX6_init_42 ?_
  rintro w1 ⟨Z, z1, z2, z3, fx3, hq, hw⟩
  rw [z1, z3] at hw
  subst hw
  subst hq
  refine g_putF (ci := 6) (N := 10) (i := 3) (q0 := 0) (T := TX6) (C := RX6) (ty := .object "LentParts$History") (fs := [.ref (fx0 0), .ref (fx1 0), .ref (fx2 0), .null, .null, .null, .int 0, .int 0, .int 0, .int 0]) (v := .ref (fx3 0)) (ws' := ([(h0, .inr (6, [.ref (fx0 0), .ref (fx1 0), .ref (fx2 0), .ref (fx3 0), .null, .null, .int 0, .int 0, .int 0, .int 0]))] ++ wX4 (gI Γ) fx0 ++ wX4 (gI Γ) fx1 ++ wX4 (gI Γ) fx2 ++ wX2 (gI Γ) (gS Γ) fx3)) hI rfl rfl inT6 tyX6 tyX6_ok nmX6 (by decide) wf_X6_25 rfl rfl rfl (by decide +kernel) rfl rfl (Nat.le_of_ble_eq_true rfl) rfl dX6_init_45 ?_
  refine g_aload_n (n := 0) dX6_init_48 rfl rfl ?_
  refine g_new (ci := 1) (fs := [.null]) (C := RX1) (T := TX1) (N := 1) rfl inT1 tyX1 tyX1_ok wk_X6_29 wn_X1 wz_X1 (fun j hj => by
    rcases (show j = 0 by omega) with e <;> rw [e] <;> rfl) ⟨Nat.le_of_ble_eq_true rfl, Nat.le_of_ble_eq_true rfl⟩ dX6_init_49 ?_
  intro x4
  refine g_dup dX6_init_52 rfl ?_
  refine g_initN c_X1_init wm_X1_init wii_X1 ⟨rfl, rfl⟩ ⟨Nat.le_of_ble_eq_true rfl, Nat.le_of_ble_eq_true rfl⟩ ⟨Nat.le_of_ble_eq_true rfl, Nat.le_of_ble_eq_true rfl⟩ wl_X6_31 (Nat.le_of_ble_eq_true rfl) dX6_init_53 ?_
  rintro w1 ⟨Z, z1, z2, z3, fx4, hq, hw⟩
  rw [z1] at hw
  subst hw
  subst hq
  refine g_putF (ci := 6) (N := 10) (i := 4) (q0 := 0) (T := TX6) (C := RX6) (ty := .object "LentParts$Gathering") (fs := [.ref (fx0 0), .ref (fx1 0), .ref (fx2 0), .ref (fx3 0), .null, .null, .int 0, .int 0, .int 0, .int 0]) (v := .ref (fx4 0)) (ws' := ([(h0, .inr (6, [.ref (fx0 0), .ref (fx1 0), .ref (fx2 0), .ref (fx3 0), .ref (fx4 0), .null, .int 0, .int 0, .int 0, .int 0]))] ++ wX4 (gI Γ) fx0 ++ wX4 (gI Γ) fx1 ++ wX4 (gI Γ) fx2 ++ wX2 (gI Γ) (gS Γ) fx3 ++ wX1 (gI Γ) fx4)) hI rfl rfl inT6 tyX6 tyX6_ok nmX6 (by decide) wf_X6_32 rfl rfl rfl (by decide +kernel) rfl rfl (Nat.le_of_ble_eq_true rfl) rfl dX6_init_56 ?_
  refine g_aload_n (n := 0) dX6_init_59 rfl rfl ?_
  refine g_new (ci := 5) (fs := [.null, .int 0, .int 0, .null, .int 0]) (C := RX5) (T := TX5) (N := 5) rfl inT5 tyX5 tyX5_ok wk_X6_36 wn_X5 wz_X5 (fun j hj => by
    rcases (show j = 0 ∨ j = 1 ∨ j = 2 ∨ j = 3 ∨ j = 4 by omega) with e | e | e | e | e <;> rw [e] <;> rfl) ⟨Nat.le_of_ble_eq_true rfl, Nat.le_of_ble_eq_true rfl⟩ dX6_init_60 ?_
  intro x5
  refine g_dup dX6_init_63 rfl ?_
  refine g_initN c_X5_init wm_X5_init wii_X5 ⟨rfl, rfl⟩ ⟨Nat.le_of_ble_eq_true rfl, Nat.le_of_ble_eq_true rfl⟩ ⟨Nat.le_of_ble_eq_true rfl, Nat.le_of_ble_eq_true rfl⟩ wl_X6_38 (Nat.le_of_ble_eq_true rfl) dX6_init_64 ?_
  rintro w1 ⟨Z, z1, z2, z3, fx5, hq, hw⟩
  rw [z1] at hw
  subst hw
  subst hq
  refine g_putF (ci := 6) (N := 10) (i := 5) (q0 := 0) (T := TX6) (C := RX6) (ty := .object "LentParts$Text") (fs := [.ref (fx0 0), .ref (fx1 0), .ref (fx2 0), .ref (fx3 0), .ref (fx4 0), .null, .int 0, .int 0, .int 0, .int 0]) (v := .ref (fx5 0)) (ws' := ([(h0, .inr (6, [.ref (fx0 0), .ref (fx1 0), .ref (fx2 0), .ref (fx3 0), .ref (fx4 0), .ref (fx5 0), .int 0, .int 0, .int 0, .int 0]))] ++ wX4 (gI Γ) fx0 ++ wX4 (gI Γ) fx1 ++ wX4 (gI Γ) fx2 ++ wX2 (gI Γ) (gS Γ) fx3 ++ wX1 (gI Γ) fx4 ++ wX5 (gI Γ) fx5)) hI rfl rfl inT6 tyX6 tyX6_ok nmX6 (by decide) wf_X6_39 rfl rfl rfl (by decide +kernel) rfl rfl (Nat.le_of_ble_eq_true rfl) rfl dX6_init_67 ?_
  exact kk _ _ ⟨(gI Γ, gB Γ, gS Γ), rfl, rfl, rfl, (fun k => [h0, (fx0 0), (fx0 1), (fx0 2), (fx0 3), (fx0 4), (fx0 5), (fx0 6), (fx0 7), (fx0 8), (fx0 9), (fx0 10), (fx0 11), (fx0 12), (fx0 13), (fx0 14), (fx1 0), (fx1 1), (fx1 2), (fx1 3), (fx1 4), (fx1 5), (fx1 6), (fx1 7), (fx1 8), (fx1 9), (fx1 10), (fx1 11), (fx1 12), (fx1 13), (fx1 14), (fx2 0), (fx2 1), (fx2 2), (fx2 3), (fx2 4), (fx2 5), (fx2 6), (fx2 7), (fx2 8), (fx2 9), (fx2 10), (fx2 11), (fx2 12), (fx2 13), (fx2 14), (fx3 0), (fx3 1), (fx3 2), (fx3 3), (fx3 4), (fx3 5), (fx3 6), (fx3 7), (fx3 8), (fx3 9), (fx3 10), (fx3 11), (fx3 12), (fx3 13), (fx3 14), (fx3 15), (fx3 16), (fx3 17), (fx3 18), (fx3 19), (fx3 20), (fx3 21), (fx3 22), (fx3 23), (fx3 24), (fx3 25), (fx3 26), (fx3 27), (fx3 28), (fx3 29), (fx3 30), (fx3 31), (fx3 32), (fx3 33), (fx3 34), (fx3 35), (fx3 36), (fx3 37), (fx3 38), (fx3 39), (fx3 40), (fx3 41), (fx3 42), (fx3 43), (fx3 44), (fx3 45), (fx3 46), (fx3 47), (fx3 48), (fx3 49), (fx3 50), (fx3 51), (fx3 52), (fx3 53), (fx3 54), (fx3 55), (fx3 56), (fx3 57), (fx3 58), (fx3 59), (fx3 60), (fx3 61), (fx3 62), (fx3 63), (fx3 64), (fx3 65), (fx3 66), (fx3 67), (fx3 68), (fx3 69), (fx3 70), (fx3 71), (fx3 72), (fx3 73), (fx3 74), (fx3 75), (fx3 76), (fx4 0), (fx4 1), (fx5 0), (fx5 1), (fx5 2)].getD k 0), rfl, rfl⟩
def fS0 : Nat → Int32 := (upd (upd (upd (upd (upd (upd (upd (upd (upd (upd (upd (upd (fun _ => 0) 126 0) 0 64) 127 1) 7 64) 128 2) 14 64) 129 3) 21 64) 130 4) 28 64) 131 5) 35 64)
