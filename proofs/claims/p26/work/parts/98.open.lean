/-! the start of the law: what the tables say of the classes, the constructor; the end of the law -/
theorem st_arr {s : State} {args : Array Value} {ty : FieldType} (h : (Cond.arrayClass ty).before args s = true) : ∃ c : ClassId, ArrOfT s c ty ∧ s.vm.findClass ("[" ++ ty.toString) = some c := by
  obtain ⟨c, k, comp, h1, h2, h3⟩ := Cond.arrayClass_spec h
  exact ⟨c, fun n z => ⟨fun k h => (by cases h), k, h2, comp, h3⟩, h1⟩
theorem st_arrS {s : State} {args : Array Value} (h : (Cond.arrayOver (.object "LentParts$State")).before args s = true) : ∃ c : ClassId, ArrOfT s c (.object "LentParts$State") ∧ va_RA s c (.object "LentParts$State") := by
  obtain ⟨comp, c, k, h1, h2, h3, h4, h5⟩ := Cond.arrayOver_spec h
  exact ⟨c, fun n z => ⟨fun k h => (by cases h), k, h3, comp, h4⟩, k, comp, h3, h4, h1, h5⟩
theorem start_K {s : State} {args : Array Value} (hts : ∀ w ∈ zT, w.before args s = true) (hS : (Cond.arrayOver (.object "LentParts$State")).before args s = true) : ∃ (D : va_G) (Z : gZ), va_K D vwCl (gK Z) s := by
  obtain ⟨c0, i0, k0⟩ := u_known (C := RX0) (T := TX0) (N := 2) (n := 2) hts inT0 (hts _ wn_X0)
  obtain ⟨c1, i1, k1⟩ := u_known (C := RX1) (T := TX1) (N := 1) (n := 1) hts inT1 (hts _ wn_X1)
  obtain ⟨c2, i2, k2⟩ := u_known (C := RX2) (T := TX2) (N := 3) (n := 3) hts inT2 (hts _ wn_X2)
  obtain ⟨c3, i3, k3⟩ := u_known (C := RX3) (T := TX3) (N := 8) (n := 8) hts inT3 (hts _ wn_X3)
  obtain ⟨c4, i4, k4⟩ := u_known (C := RX4) (T := TX4) (N := 8) (n := 8) hts inT4 (hts _ wn_X4)
  obtain ⟨c5, i5, k5⟩ := u_known (C := RX5) (T := TX5) (N := 5) (n := 5) hts inT5 (hts _ wn_X5)
  obtain ⟨c6, i6, k6⟩ := u_known (C := RX6) (T := TX6) (N := 10) (n := 10) hts inT6 (hts _ wn_X6)
  obtain ⟨cI, a1, a2⟩ := st_arr (hts _ wy_int)
  obtain ⟨cS, d1, d2⟩ := st_arrS hS
  refine ⟨(fun k => match k with | 0 => c0 | 1 => c1 | 2 => c2 | 3 => c3 | 4 => c4 | 5 => c5 | _ => c6, fun k => match k with | 0 => i0 | 1 => i1 | 2 => i2 | 3 => i3 | 4 => i4 | 5 => i5 | _ => i6), (cI, cI, cS), fun k q hq => ?_, fun k q hq => ?_⟩
  · match k, hq with
    | 0, hq => cases hq; exact k0
    | 1, hq => cases hq; exact k1
    | 2, hq => cases hq; exact k2
    | 3, hq => cases hq; exact k3
    | 4, hq => cases hq; exact k4
    | 5, hq => cases hq; exact k5
    | 6, hq => cases hq; exact k6
    | k + 7, hq =>
      have h8 : k + 7 < 7 := (List.getElem?_eq_some_iff.mp hq).1
      omega
  · match k, hq with
    | 0, hq => cases hq; exact ⟨a1, a2⟩
    | 1, hq => cases hq; exact ⟨a1, a2⟩
    | 2, hq => cases hq; exact ⟨d1, d2⟩
    | k + 3, hq =>
      have h8 : k + 3 < 3 := (List.getElem?_eq_some_iff.mp hq).1
      omega
set_option maxRecDepth 20000 in
theorem start_law {Γ : gCx} {b : Nat} (kk : ∀ q6 : Nat → Nat, gV "LentPartsLaw" code 10 room_1 Γ 10 [(2, .int 0), (1, .ref (q6 0)), (0, .ref b)] [] (wX6 (gI Γ) (gS Γ) q6) 128 3178) : gV "LentPartsLaw" code 10 room_1 Γ 0 [(0, .ref b)] [] [] 0 0 := by
  refine g_new (ci := 6) (fs := [.null, .null, .null, .null, .null, .null, .int 0, .int 0, .int 0, .int 0]) (C := RX6) (T := TX6) (N := 10) rfl inT6 tyX6 tyX6_ok wk_L_15 wn_X6 wz_X6 (fun j hj => by
    rcases (show j = 0 ∨ j = 1 ∨ j = 2 ∨ j = 3 ∨ j = 4 ∨ j = 5 ∨ j = 6 ∨ j = 7 ∨ j = 8 ∨ j = 9 by omega) with e | e | e | e | e | e | e | e | e | e <;> rw [e] <;> rfl) ⟨Nat.le_of_ble_eq_true rfl, Nat.le_of_ble_eq_true rfl⟩ dL_law_0 ?_
  intro x0
  refine g_dup dL_law_3 rfl ?_
  refine g_init c_X6_init wm_X6_init wii_X6 ⟨rfl, rfl⟩ ⟨Nat.le_of_ble_eq_true rfl, Nat.le_of_ble_eq_true rfl⟩ ⟨Nat.le_of_ble_eq_true rfl, Nat.le_of_ble_eq_true rfl⟩ wl_L_72 (Nat.le_of_ble_eq_true rfl) dL_law_4 ?_
  rintro w1 ⟨Z, z1, z2, z3, q6, hq, hw⟩
  rw [z1, z3] at hw
  subst hw
  subst hq
  refine g_astore_n (i := 1) (ls' := [(1, .ref (q6 0)), (0, .ref b)]) dL_law_7 rfl (by decide) rfl ?_
  refine g_iconst (v := 0) dL_law_8 rfl ?_
  refine g_istore_n (i := 2) (ls' := [(2, .int 0), (1, .ref (q6 0)), (0, .ref b)]) dL_law_9 rfl (by decide) rfl ?_
  exact kk q6
theorem law_end {p : Program} {l : Launch} {e : Env} {s : State} {m : MethodId} {below : List Frame} {meth : Method} {c : Code} {D : va_G} {ad : Nat → Nat} {Z : gZ} {b L : Nat} {xs : Nat → Int32} (hr : meth.sig.returnType = ret) (hk : meth.locks = false) (h : zH) (v : Int) : yV (p, l, e, s, m, below, meth, c, D, ad, Z, b, L, xs, lw_Z below #[Value.ref b] s) 220 [(0, zR 128), (1, zR 0), (2, zI v)] [] h := by
  refine y_iconst (a := 1) dL_law_220 rfl ?_
  intro Y hl hs hh H locs sl h1 h2 h3
  obtain ⟨yx, yb, -⟩ := id Y
  refine va_forget (fun q hq => h3.2.2 q hq) ?_
  refine W.widen (k := 600000) (n := 7302250) (Nat.le_of_ble_eq_true rfl) (Nat.le_of_ble_eq_true rfl) ?_
  exact lw_ret yx yb hr hk dL_law_221
