/-! p26: one act of the law -/
theorem zdiv_t {a b : Int} (ha : zw1 a) (hb : zw1 b) : Int32.ofInt a / Int32.ofInt b = Int32.ofInt (a.tdiv b) := by
  rw [← Int32.toInt_inj, Int32.toInt_div, show (Int32.ofInt a).toInt = a from ha, show (Int32.ofInt b).toInt = b from hb, Int32.toInt_ofInt]
theorem zrem_bd {a b : Int} (h0 : 0 ≤ a ∧ a < 2147483648) (h1 : 1 ≤ b ∧ b < 2147483648) : 0 ≤ zrem a b ∧ zrem a b < b := by
  have wa : zw1 a := zw1_of (by omega) (by omega)
  have wb : zw1 b := zw1_of (by omega) (by omega)
  have t : a.tdiv b = a / b := Int.tdiv_eq_ediv_of_nonneg h0.1
  have e := Int.mul_ediv_add_emod a b
  have m0 := Int.emod_nonneg a (show b ≠ 0 by omega)
  have m1 := Int.emod_lt_of_pos a (show 0 < b by omega)
  have e1 : Int32.ofInt a - Int32.ofInt a / Int32.ofInt b * Int32.ofInt b = Int32.ofInt (a % b) := by
    rw [zdiv_t wa wb, t, ← Int32.ofInt_mul, ← Int32.ofInt_sub]
    congr 1
    rw [Int.mul_comm] at e
    omega
  have e2 : zrem a b = a % b := by
    unfold zrem
    rw [e1]
    exact zw1_of (by omega) (by omega)
  rw [e2]
  exact ⟨m0, m1⟩
theorem zmask_bd (v : Int) : 0 ≤ zand v 2147483647 ∧ zand v 2147483647 < 2147483648 := by
  have h : (Int32.ofInt v &&& Int32.ofInt 2147483647).toBitVec.toNat ≤ 2147483647 := by
    rw [Int32.toBitVec_and, BitVec.toNat_and]
    exact Nat.and_le_right
  have e : zand v 2147483647 = ((Int32.ofInt v &&& Int32.ofInt 2147483647).toBitVec.toNat : Int) := by
    show (Int32.ofInt v &&& Int32.ofInt 2147483647).toBitVec.toInt = _
    rw [BitVec.toInt_eq_toNat_cond, if_pos]
    omega
  omega
theorem zlow_bd {v n : Int} (h : 1 ≤ n ∧ n < 2147483648) : 0 ≤ zlow v n ∧ zlow v n < n := zrem_bd (zmask_bd v) h
/-- what an act of the law answers and leaves -/
def dP (s : zs) (v x : Int) (s' : zs) : Prop := -5 ≤ x ∧ s' (120 + zlow (zshr v 10) 2).toNat = s (120 + zlow (zshr v 10) 2).toNat + (if zand v 15 = 9 ∧ 0 ≤ x then 1 else 0) ∧ ((zand v 15 = 12 ∨ zand v 15 = 13) → 0 ≤ x → x < 9 → s (108 + zlow (zshr v 10) 2).toNat ≠ 0 ∧ x = s (72 + 6 * zlow (zshr v 10) 2).toNat ∧ (0 ≤ x ∧ x ≤ 5) ∧ s' (6 * zlow (zshr v 10) 2 + x).toNat = 64)
def dR (B : Int) (s : zs) (v : Int) (r : Option zA) (h' : zH) : Prop := ∃ (x : Int) (s' : zs) (n' : Nat) (H' : Nat → zs), r = some (zI x) ∧ iQ (B + 1) s' n' H' h' ∧ dP s v x s'
theorem dR_of {B : Int} {s : zs} {n : Nat} {H : Nat → zs} {op : Int × zs} {h h' : zH} {v : Int} (I : iQ B s n H h) (a : cAct B s n H op h h') (o : oQ s op) (h9 : zand v 15 ≠ 9) (h12 : zand v 15 ≠ 12) (h13 : zand v 15 ≠ 13) : dR B s v (some (zI op.1)) h' := by
  have b := zlow_bd (v := zshr v 10) (n := 2) (by decide)
  obtain ⟨o1, o2, o3⟩ := o
  obtain ⟨s', n', H', I', e1, e2⟩ := iQ_act I a o2
  refine ⟨op.1, s', n', H', rfl, I'.up (by omega), o1, ?_, fun z => by omega⟩
  rw [if_neg (fun z => h9 z.1)]
  by_cases c : op.1 < 0
  · rw [e1 c]
    omega
  · rw [(e2 (by omega)).1, o3 _ (by omega)]
    omega
set_option maxHeartbeats 4000000 in
theorem c_L_does {B : Int} {s : zs} {n : Nat} {H : Nat → zs} {h : zH} {v : Int} (I : iQ B s n H h) (hB : B ≤ 100000) : zSp 20 mL_does [zR 0, zI v] h (dR B s v) := by
  refine zSp_of (by decide +kernel) (Nat.le_of_ble_eq_true rfl) rfl (fun Γ => k_L_does_0  (by decide) ?_)
  have hW := I.1.2.1
  have hn := hW.n
  unfold WFn at hn
  have q := I.2.1
  have b := zlow_bd (v := zshr v 10) (n := 2) (by decide)
  rintro x1 e1 x2 e2 _ rfl
  refine ⟨4, _, by decide, c_X6_count I.1.1 hW, ?_⟩
  rintro _ _ ⟨rfl, rfl⟩
  refine ⟨s 133, rfl, ?_⟩
  have serve : ∀ h' : zH, (zand v 15 = 12 ∨ zand v 15 = 13) → cAct B s n H (opServe s (zlow (zshr v 10) 2)) h h' → dR B s v (some (zI (opServe s (zlow (zshr v 10) 2)).1)) h' := by
    intro h' hv a
    obtain ⟨o1, o2, o3⟩ := oQ_serve (c := zlow (zshr v 10) 2) hW q
    obtain ⟨s', n', H', I', e1, e2⟩ := iQ_act I a o2
    refine ⟨_, s', n', H', rfl, I'.up (by omega), o1, ?_, fun _ z1 z2 => ?_⟩
    · rw [if_neg (fun z => by omega)]
      by_cases c : (opServe s (zlow (zshr v 10) 2)).1 < 0
      · rw [e1 c]
        omega
      · rw [(e2 (by omega)).1, o3 _ (by omega)]
        omega
    · rw [(e2 z1).1]
      exact serve_first hW (by omega) z1 z2
  refine ⟨fun e => ?_, fun e => ?_, fun e => ?_, fun e => ?_, fun e => ?_, fun e => ⟨fun c => ?_, fun c => ?_⟩, fun e => ?_, fun e => ⟨fun c => ?_, fun c => ?_⟩, fun e => ⟨fun c => ?_, fun c => ?_⟩, fun e => ?_, fun e => ⟨fun c => ?_, fun c => ?_⟩, fun e => ⟨fun c => ?_, fun c => ?_⟩, fun e => ?_, fun e => ?_, fun e => ?_, fun e => ?_⟩
  · refine ⟨4, _, by decide, c_X6_half I.1, ?_⟩
    rintro _ h1 ⟨rfl, a⟩
    exact ⟨_, rfl, dR_of I a (oQ_half hW q) (by omega) (by omega) (by omega)⟩
  · refine ⟨4, _, by decide, c_X6_half I.1, ?_⟩
    rintro _ h1 ⟨rfl, a⟩
    exact ⟨_, rfl, dR_of I a (oQ_half hW q) (by omega) (by omega) (by omega)⟩
  · refine ⟨4, _, by decide, c_X6_half I.1, ?_⟩
    rintro _ h1 ⟨rfl, a⟩
    exact ⟨_, rfl, dR_of I a (oQ_half hW q) (by omega) (by omega) (by omega)⟩
  · refine ⟨4, _, by decide, c_X6_lend I.1, ?_⟩
    rintro _ h1 ⟨rfl, a⟩
    exact ⟨_, rfl, dR_of I a (oQ_lend hW q) (by omega) (by omega) (by omega)⟩
  · refine ⟨4, _, by decide, c_X6_lend I.1, ?_⟩
    rintro _ h1 ⟨rfl, a⟩
    exact ⟨_, rfl, dR_of I a (oQ_lend hW q) (by omega) (by omega) (by omega)⟩
  · refine ⟨by omega, 4, _, by decide, c_X6_giveBack I.1, ?_⟩
    rintro _ h1 ⟨rfl, a⟩
    exact ⟨_, rfl, dR_of I a (oQ_give hW q) (by omega) (by omega) (by omega)⟩
  · refine ⟨4, _, by decide, c_X6_giveBack I.1, ?_⟩
    rintro _ h1 ⟨rfl, a⟩
    exact ⟨_, rfl, dR_of I a (oQ_give hW q) (by omega) (by omega) (by omega)⟩
  · refine ⟨19, _, by decide, c_X6_gather I.1, ?_⟩
    rintro _ h1 ⟨rfl, a⟩
    exact ⟨_, rfl, dR_of I a (oQ_gather hW q) (by omega) (by omega) (by omega)⟩
  · refine ⟨4, _, by decide, c_X6_hold I.1 (Or.inl rfl), ?_⟩
    rintro _ h1 ⟨rfl, a⟩
    exact ⟨_, rfl, dR_of I a (oQ_hold hW q) (by omega) (by omega) (by omega)⟩
  · refine ⟨4, _, by decide, c_X6_hold I.1 (Or.inr rfl), ?_⟩
    rintro _ h1 ⟨rfl, a⟩
    exact ⟨_, rfl, dR_of I a (oQ_hold hW q) (by omega) (by omega) (by omega)⟩
  · refine ⟨4, _, by decide, c_X6_hold I.1 (Or.inl rfl), ?_⟩
    rintro _ h1 ⟨rfl, a⟩
    exact ⟨_, rfl, dR_of I a (oQ_hold hW q) (by omega) (by omega) (by omega)⟩
  · refine ⟨4, _, by decide, c_X6_hold I.1 (Or.inr rfl), ?_⟩
    rintro _ h1 ⟨rfl, a⟩
    exact ⟨_, rfl, dR_of I a (oQ_hold hW q) (by omega) (by omega) (by omega)⟩
  · refine ⟨4, _, by decide, c_X6_write I.1 hB, ?_⟩
    rintro _ h1 ⟨rfl, a⟩
    refine ⟨_, rfl, ?_⟩
    obtain ⟨o1, o2, o3⟩ := wQ_write (a := x1) (v := zlow (zshr v 12) 1000) hW hB q (show 0 ≤ zlow (zshr v 10) 2 ∧ zlow (zshr v 10) 2 ≤ 5 by omega)
    obtain ⟨s', n', H', I', k1, k2⟩ := iQ_act I a o2
    refine ⟨_, s', n', H', rfl, I', o1, ?_, fun z => by omega⟩
    by_cases c : (opWrite s x1 (zlow (zshr v 10) 2) (zlow (zshr v 12) 1000)).1 < 0
    · rw [k1 c, if_neg (fun z => by omega)]
      omega
    · rw [(k2 (by omega)).1, if_pos ⟨e, by omega⟩]
      exact o3 (by omega)
  · refine ⟨4, _, by decide, c_X6_claim I.1 (Or.inl rfl), ?_⟩
    rintro _ h1 ⟨rfl, a⟩
    exact ⟨_, rfl, dR_of I a (oQ_claim hW q) (by omega) (by omega) (by omega)⟩
  · refine ⟨4, _, by decide, c_X6_claim I.1 (Or.inr rfl), ?_⟩
    rintro _ h1 ⟨rfl, a⟩
    exact ⟨_, rfl, dR_of I a (oQ_claim hW q) (by omega) (by omega) (by omega)⟩
  · refine ⟨4, _, by decide, c_X6_claim I.1 (Or.inl rfl), ?_⟩
    rintro _ h1 ⟨rfl, a⟩
    exact ⟨_, rfl, dR_of I a (oQ_claim hW q) (by omega) (by omega) (by omega)⟩
  · refine ⟨4, _, by decide, c_X6_claim I.1 (Or.inr rfl), ?_⟩
    rintro _ h1 ⟨rfl, a⟩
    exact ⟨_, rfl, dR_of I a (oQ_claim hW q) (by omega) (by omega) (by omega)⟩
  · refine ⟨19, _, by decide, c_X6_serve I.1, ?_⟩
    rintro _ h1 ⟨rfl, a⟩
    exact ⟨_, rfl, serve h1 (Or.inl e) a⟩
  · refine ⟨19, _, by decide, c_X6_serve I.1, ?_⟩
    rintro _ h1 ⟨rfl, a⟩
    exact ⟨_, rfl, serve h1 (Or.inr e) a⟩
  · refine ⟨4, _, by decide, c_X6_handOver I.1, ?_⟩
    rintro _ h1 ⟨rfl, a⟩
    exact ⟨_, rfl, dR_of I a (oQ_hand hW q) (by omega) (by omega) (by omega)⟩
  · refine ⟨3, _, by decide, c_X6_cell I.1.1 hW, ?_⟩
    rintro _ _ ⟨rfl, rfl⟩
    refine ⟨_, rfl, 4, _, by decide, c_X6_lend I.1, ?_⟩
    rintro _ h1 ⟨rfl, a⟩
    exact ⟨_, rfl, dR_of I a (oQ_lend hW q) (by omega) (by omega) (by omega)⟩
