/-! the class's acts as they are called -/
def zFa (h h' : zH) : Prop := ∀ k : Nat, (k = 0 ∨ (31 ≤ k ∧ k < 46) ∨ 125 ≤ k) → h' k = h k
def cAct (B : Int) (s : zs) (n : Nat) (H : Nat → zs) (op : Int × zs) (h h' : zH) : Prop := (op.1 < 0 → CInv B s n H h') ∧ (0 ≤ op.1 → CInv B op.2 (pushN n) (pushH n H s) h') ∧ zFa h h'
theorem act_wrap2 {B B' : Int} {D da : Nat} {m : zM} {args : List zA} {s : zs} {n : Nat} {H : Nat → zs} {h : zH} {op : Int × zs} {Pc : zH → Option zA → zH → Prop} (c : CInv B s n H h) (hD : 4 ≤ D ∧ da + 1 ≤ D) (hB : B ≤ B') (hW' : 0 ≤ op.1 → WF B' op.2)
    (act : ∀ h1 : zH, Rep s h1 1 → zSp da m args h1 (Pc h1)) (hPc : ∀ h1 q h', Pc h1 q h' → q = some (zI op.1) ∧ (0 ≤ op.1 → Rep op.2 h' 1) ∧ zFg 1 h1 h') :
    ∃ (d1 : Nat) (P2 : Option zA → zH → Prop), d1 + 1 ≤ D ∧ zSp d1 mX2_open [zR 46, zR 1] h P2 ∧ ∀ r3 h4, P2 r3 h4 → r3 = none ∧ ∃ (d7 : Nat) (P8 : Option zA → zH → Prop), d7 + 1 ≤ D ∧ zSp d7 m args h4 P8 ∧ ∀ r9 h10, P8 r9 h10 → ∃ x13 : Int, r9 = some (zI x13) ∧ ∃ (d14 : Nat) (P15 : Option zA → zH → Prop), d14 + 1 ≤ D ∧ zSp d14 mX6_close [zR 0, zI x13] h10 P15 ∧ ∀ r16 h17, P15 r16 h17 → ∃ x20 : Int, r16 = some (zI x20) ∧ (some (zI x20) = some (zI op.1) ∧ cAct B' s n H op h h17) := by
  have c0 := c
  obtain ⟨q1, q2, q3, q4, q5, q6⟩ := c
  have go : ∃ o : Nat, o < 5 ∧ h 46 1 = (o : Int) := ⟨(h 46 1).toNat, by omega, by omega⟩
  obtain ⟨o, o5, ho⟩ := go
  refine ⟨3, _, by omega, c_X2_open q1 q2 q3, ?_⟩
  rintro _ h1 ⟨rfl, r1, f1⟩
  rw [ho, Int.toNat_natCast] at r1 f1
  refine ⟨rfl, da, _, by omega, act h1 (Rep_congr q1 (fun k _ _ => f1 k (by omega))), ?_⟩
  intro r h2 p2
  obtain ⟨rfl, r2, f2⟩ := hPc h1 r h2 p2
  have rs : Rep s h2 (48 + 15 * o) := Rep_congr r1 (fun k _ _ => f2 k (by omega) (by omega))
  have e46 : h2 46 = h 46 := by rw [f2 46 (by omega) (by omega), f1 46 (by omega)]
  refine ⟨_, rfl, 3, _, by omega, c_X6_close (B := B) (s := s) (by rw [e46]; exact ho) o5 (by rw [e46]; exact q4) q5 (fun _ => rs) q2, ?_⟩
  rintro _ h3 ⟨rfl, c1, c2⟩
  refine ⟨_, rfl, rfl, ?_⟩
  obtain ⟨w1, w2⟩ := act_end (h' := h3) c0 ho hB hW' r2 (fun k hk => by rw [f2 k (by omega) (by omega), f1 k (by omega)]) rs c1 c2
  refine ⟨w1, w2, fun k hk => ?_⟩
  rw [← f1 k (by omega), ← f2 k (by omega) (by omega)]
  by_cases ha : op.1 < 0
  · exact (c1 ha).2 k (by omega)
  · exact (c2 (by omega)).2.2 k (by omega)
theorem c_X6_lend {B : Int} {s : zs} {n : Nat} {H : Nat → zs} {h : zH} {a1 a2 a3 a4 : Int} (c : CInv B s n H h) : zSp 4 mX6_lend [zR 0, zI a1, zI a2, zI a3, zI a4] h (fun q h' => q = some (zI (opLend s a1 a2 a3 a4).1) ∧ cAct B s n H (opLend s a1 a2 a3 a4) h h') := by
  refine zSp_of (by decide +kernel) (Nat.le_of_ble_eq_true rfl) rfl (fun Γ => k_X6_lend_0  (by decide) ?_)
  exact act_wrap2 (Pc := fun h q h' => q = some (zI (opLend s a1 a2 a3 a4).1) ∧ Rep (opLend s a1 a2 a3 a4).2 h' 1 ∧ zFr 1 h h') c (by decide) (Int.le_refl _) (fun _ => WF_opLend c.2.1) (fun h1 r => c_X4_makeLoan zSt_1 r c.2.1) (fun h1 q h' p => ⟨p.1, fun _ => p.2.1, p.2.2.g⟩)
theorem c_X6_half {B : Int} {s : zs} {n : Nat} {H : Nat → zs} {h : zH} {a1 a2 a3 : Int} (c : CInv B s n H h) : zSp 4 mX6_half [zR 0, zI a1, zI a2, zI a3] h (fun q h' => q = some (zI (opHalf s a1 a2 a3).1) ∧ cAct B s n H (opHalf s a1 a2 a3) h h') := by
  refine zSp_of (by decide +kernel) (Nat.le_of_ble_eq_true rfl) rfl (fun Γ => k_X6_half_0  (by decide) ?_)
  exact act_wrap2 (Pc := fun h q h' => q = some (zI (opHalf s a1 a2 a3).1) ∧ Rep (opHalf s a1 a2 a3).2 h' 1 ∧ zFr 1 h h') c (by decide) (Int.le_refl _) (fun _ => WF_opHalf c.2.1) (fun h1 r => c_X4_makeHalfLoan zSt_1 r c.2.1) (fun h1 q h' p => ⟨p.1, fun _ => p.2.1, p.2.2.g⟩)
theorem c_X6_giveBack {B : Int} {s : zs} {n : Nat} {H : Nat → zs} {h : zH} {a1 : Int} (c : CInv B s n H h) : zSp 4 mX6_giveBack [zR 0, zI a1] h (fun q h' => q = some (zI (opGive s a1).1) ∧ cAct B s n H (opGive s a1) h h') := by
  refine zSp_of (by decide +kernel) (Nat.le_of_ble_eq_true rfl) rfl (fun Γ => k_X6_giveBack_0  (by decide) ?_)
  exact act_wrap2 (Pc := fun h q h' => q = some (zI (opGive s a1).1) ∧ Rep (opGive s a1).2 h' 1 ∧ zFr 1 h h') c (by decide) (Int.le_refl _) (fun _ => WF_opGive c.2.1) (fun h1 r => c_X4_endLoan zSt_1 r c.2.1) (fun h1 q h' p => ⟨p.1, fun _ => p.2.1, p.2.2.g⟩)
theorem c_X6_gather {B : Int} {s : zs} {n : Nat} {H : Nat → zs} {h : zH} {a1 a2 : Int} (c : CInv B s n H h) : zSp 19 mX6_gather [zR 0, zI a1, zI a2] h (fun q h' => q = some (zI (opGather s a1 a2).1) ∧ cAct B s n H (opGather s a1 a2) h h') := by
  refine zSp_of (by decide +kernel) (Nat.le_of_ble_eq_true rfl) rfl (fun Γ => k_X6_gather_0  (by decide) ?_)
  exact act_wrap2 (Pc := fun h q h' => q = some (zI (opGather s a1 a2).1) ∧ Rep (opGather s a1 a2).2 h' 1 ∧ zFg 1 h h') c (by decide) (Int.le_refl _) (fun _ => WF_opGather c.2.1) (fun h1 r => c_X6_gatherCell r c.2.1) (fun h1 q h' p => ⟨p.1, fun _ => p.2.1, p.2.2⟩)
theorem c_X6_hold {B : Int} {s : zs} {n : Nat} {H : Nat → zs} {h : zH} {a1 a2 a3 : Int} (c : CInv B s n H h) (hv : a3 = 0 ∨ a3 = 1) : zSp 4 mX6_hold [zR 0, zI a1, zI a2, zI a3] h (fun q h' => q = some (zI (opHold s a1 a2 a3).1) ∧ cAct B s n H (opHold s a1 a2 a3) h h') := by
  refine zSp_of (by decide +kernel) (Nat.le_of_ble_eq_true rfl) rfl (fun Γ => k_X6_hold_0  (by decide) ?_)
  exact act_wrap2 (Pc := fun h q h' => q = some (zI (opHold s a1 a2 a3).1) ∧ Rep (opHold s a1 a2 a3).2 h' 1 ∧ zFr 1 h h') c (by decide) (Int.le_refl _) (fun _ => WF_opHold c.2.1 hv) (fun h1 r => c_X4_setHolding zSt_1 r c.2.1 hv) (fun h1 q h' p => ⟨p.1, fun _ => p.2.1, p.2.2.g⟩)
theorem c_X6_write {B : Int} {s : zs} {n : Nat} {H : Nat → zs} {h : zH} {a1 a2 a3 : Int} (c : CInv B s n H h) (hB : B ≤ 100000) : zSp 4 mX6_write [zR 0, zI a1, zI a2, zI a3] h (fun q h' => q = some (zI (opWrite s a1 a2 a3).1) ∧ cAct (B + 1) s n H (opWrite s a1 a2 a3) h h') := by
  refine zSp_of (by decide +kernel) (Nat.le_of_ble_eq_true rfl) rfl (fun Γ => k_X6_write_0  (by decide) ?_)
  exact act_wrap2 (Pc := fun h q h' => q = some (zI (opWrite s a1 a2 a3).1) ∧ Rep (opWrite s a1 a2 a3).2 h' 1 ∧ zFr 1 h h') c (by decide) (by omega) (fun _ => WF_opWrite c.2.1 hB) (fun h1 r => c_X4_writeValue zSt_1 r c.2.1) (fun h1 q h' p => ⟨p.1, fun _ => p.2.1, p.2.2.g⟩)
theorem c_X6_claim {B : Int} {s : zs} {n : Nat} {H : Nat → zs} {h : zH} {a1 a2 a3 : Int} (c : CInv B s n H h) (hv : a3 = 0 ∨ a3 = 1) : zSp 4 mX6_claim [zR 0, zI a1, zI a2, zI a3] h (fun q h' => q = some (zI (opClaim s a1 a2 a3).1) ∧ cAct B s n H (opClaim s a1 a2 a3) h h') := by
  refine zSp_of (by decide +kernel) (Nat.le_of_ble_eq_true rfl) rfl (fun Γ => k_X6_claim_0  (by decide) ?_)
  exact act_wrap2 (Pc := fun h q h' => q = some (zI (opClaim s a1 a2 a3).1) ∧ Rep (opClaim s a1 a2 a3).2 h' 1 ∧ zFr 1 h h') c (by decide) (Int.le_refl _) (fun _ => WF_opClaim c.2.1 hv) (fun h1 r => c_X4_setClaim zSt_1 r c.2.1 hv) (fun h1 q h' p => ⟨p.1, fun _ => p.2.1, p.2.2.g⟩)
theorem c_X6_serve {B : Int} {s : zs} {n : Nat} {H : Nat → zs} {h : zH} {a1 : Int} (c : CInv B s n H h) : zSp 19 mX6_serve [zR 0, zI a1] h (fun q h' => q = some (zI (opServe s a1).1) ∧ cAct B s n H (opServe s a1) h h') := by
  refine zSp_of (by decide +kernel) (Nat.le_of_ble_eq_true rfl) rfl (fun Γ => k_X6_serve_0  (by decide) ?_)
  exact act_wrap2 (Pc := fun h q h' => q = some (zI (opServe s a1).1) ∧ (0 ≤ (opServe s a1).1 → Rep (opServe s a1).2 h' 1) ∧ zFg 1 h h') c (by decide) (Int.le_refl _) (fun _ => WF_opServe c.2.1) (fun h1 r => c_X6_serveClaims r c.2.1) (fun h1 q h' p => p)
theorem c_X6_handOver {B : Int} {s : zs} {n : Nat} {H : Nat → zs} {h : zH} {a1 a2 : Int} (c : CInv B s n H h) : zSp 4 mX6_handOver [zR 0, zI a1, zI a2] h (fun q h' => q = some (zI (opHand s a1 a2).1) ∧ cAct B s n H (opHand s a1 a2) h h') := by
  refine zSp_of (by decide +kernel) (Nat.le_of_ble_eq_true rfl) rfl (fun Γ => k_X6_handOver_0  (by decide) ?_)
  exact act_wrap2 (Pc := fun h q h' => q = some (zI (opHand s a1 a2).1) ∧ Rep (opHand s a1 a2).2 h' 1 ∧ zFr 1 h h') c (by decide) (Int.le_refl _) (fun _ => WF_opHand c.2.1) (fun h1 r => c_X4_changeOwner zSt_1 r c.2.1) (fun h1 q h' p => ⟨p.1, fun _ => p.2.1, p.2.2.g⟩)
theorem c_X6_undo {B : Int} {s : zs} {n : Nat} {H : Nat → zs} {h : zH} (c : CInv B s n H h) : zSp 3 mX6_undo [zR 0] h (fun q h' => (n = 0 ∧ q = some (zI (-5)) ∧ h' = h) ∨ (n ≠ 0 ∧ q = some (zI ((n - 1 : Nat) : Int)) ∧ CInv B (H (n - 1)) (n - 1) H h' ∧ zFa h h')) := by
  refine zSp_of (by decide +kernel) (Nat.le_of_ble_eq_true rfl) rfl (fun Γ => k_X6_undo_0  (by decide) ?_)
  obtain ⟨q1, q2, q3, q4, q5, q6⟩ := c
  have go : ∃ o : Nat, o < 5 ∧ h 46 1 = (o : Int) := ⟨(h 46 1).toNat, by omega, by omega⟩
  obtain ⟨o, o5, ho⟩ := go
  refine ⟨1, _, by decide, c_X2_takeLatest ho o5 q4 q5, ?_⟩
  rintro _ h1 (⟨c0, rfl, rfl⟩ | ⟨c0, rfl, e1, e2, e3⟩)
  · exact ⟨none, rfl, fun _ => Or.inl ⟨c0, rfl, rfl⟩, fun k hk => (by cases hk)⟩
  · refine ⟨some _, rfl, fun hk => (by cases hk), fun k hk => ?_⟩
    obtain rfl : 48 + 15 * ((o + 4) % 5) = k := Option.some.inj hk
    have hz := zSt_rowN (i := (o + 4) % 5) (by omega)
    have rr := (q6 (n - 1) (by omega))
    rw [ho, Int.toNat_natCast, show (o + 5 - n + (n - 1)) % 5 = (o + 4) % 5 by omega] at rr
    refine ⟨hz, 2, _, by decide, c_X4_copyFrom zSt_1 hz (by omega) (Rep_congr rr.1 (fun k k0 k1 => e3 k (by omega))) rr.2, ?_⟩
    rintro _ h2 ⟨rfl, r2, f2⟩
    have e46 : h2 46 = h1 46 := f2 46 (by omega)
    refine ⟨rfl, Or.inr ⟨c0, by rw [e46, e2], ⟨r2, rr.2, by rw [e46, e1]; omega, by rw [e46, e2], by omega, fun i hi => ?_⟩, fun k hk => by rw [f2 k (by omega), e3 k (by omega)]⟩⟩
    have rq := (q6 i (by omega))
    rw [ho, Int.toNat_natCast] at rq
    rw [e46, e1, Int.toNat_natCast, show ((o + 4) % 5 + 5 - (n - 1) + i) % 5 = (o + 5 - n + i) % 5 by omega]
    exact ⟨Rep_congr rq.1 (fun k k0 k1 => by rw [f2 k (by omega), e3 k (by omega)]), rq.2⟩
theorem c_X6_read {h : zH} {s : zs} {a1 a2 : Int} (r : Rep s h 1) : zSp 2 mX6_read [zR 0, zI a1, zI a2] h (fun q h' => q = some (zI (qRead s a1 a2)) ∧ h = h') := by
  refine zSp_of (by decide +kernel) (Nat.le_of_ble_eq_true rfl) rfl (fun Γ => k_X6_read_0  (by decide) ?_)
  unfold qRead
  refine ⟨fun c => ?_, fun c1 => ⟨fun c2 => ⟨c1, c2, ?_⟩, fun c => ?_⟩⟩
  · rw [if_neg (fun q => c q.1)]; exact ⟨rfl, rfl⟩
  · rw [if_pos ⟨c1, c2⟩, show h 5 = h (1 + 4) from rfl, r.h a1 a2 c1 c2]
    refine ⟨fun c => ⟨by omega, by omega, ?_⟩, fun c => ?_⟩
    · rw [if_neg c, show h 2 = h (1 + 1) from rfl, (r.v a2 c2).1]; exact ⟨rfl, rfl⟩
    · rw [if_pos c]; exact ⟨rfl, rfl⟩
  · rw [if_neg (fun q => c q.2)]; exact ⟨rfl, rfl⟩
theorem c_X6_cell {B : Int} {h : zH} {s : zs} {a1 a2 : Int} (r : Rep s h 1) (hW : WF B s) : zSp 3 mX6_cell [zR 0, zI a1, zI a2] h (fun q h' => q = some (zI (qCell s a1 a2)) ∧ h = h') := by
  refine zSp_of (by decide +kernel) (Nat.le_of_ble_eq_true rfl) rfl (fun Γ => k_X6_cell_0  (by decide) ?_)
  unfold qCell
  refine ⟨fun c => ?_, fun c => by rw [if_neg c]; exact ⟨rfl, rfl⟩⟩
  rw [if_pos c]
  have v := r.v a1 c
  refine ⟨fun e => ?_, fun e => ?_, fun e => ?_, fun e => ?_, fun e => ?_, fun e => ?_, fun e => ?_, fun e => ?_, fun e => ?_, fun e => ?_⟩
  · rw [e, show h 2 = h (1 + 1) from rfl, v.1]; exact ⟨by omega, by omega, rfl, rfl⟩
  · rw [e, show h 3 = h (1 + 2) from rfl, v.2.1]; exact ⟨by omega, by omega, rfl, rfl⟩
  · rw [e, show h 4 = h (1 + 3) from rfl, v.2.2.1]; exact ⟨by omega, by omega, rfl, rfl⟩
  · rw [e]
    refine ⟨2, _, by decide, c_X4_countReaders zSt_1 r hW c, ?_⟩
    rintro _ _ ⟨rfl, rfl⟩
    exact ⟨_, rfl, rfl, rfl⟩
  · rw [e, show h 9 = h (1 + 8) from rfl, v.2.2.2]; exact ⟨c, rfl, rfl⟩
  · rw [e, show h 9 = h (1 + 8) from rfl, v.2.2.2]
    refine ⟨c, ?_⟩
    show some (zI (if s (108 + a1).toNat = 0 then -5 else h (1 + 7) (6 * a1).toNat)) = some (zI (if s (108 + a1).toNat = 0 then -5 else s (72 + 6 * a1).toNat)) ∧ _
    by_cases c2 : s (108 + a1).toNat = 0
    · rw [if_pos c2, if_pos c2]; exact ⟨rfl, rfl⟩
    · have b := (hW.c a1 c).1
      have q := r.c a1 0 c (by omega) (by omega)
      rw [show 6 * a1 + 0 = 6 * a1 by omega, show 72 + 6 * a1 + 0 = 72 + 6 * a1 by omega] at q
      rw [if_neg c2, if_neg c2, q]; exact ⟨rfl, rfl⟩
  · rw [e]
    refine ⟨1, _, by decide, c_X3_countOf zSt_1 r hW.n, ?_⟩
    rintro _ _ ⟨rfl, rfl⟩
    exact ⟨_, rfl, rfl, rfl⟩
  · rw [e]
    refine ⟨2, _, by decide, c_X4_holderOfWhole zSt_1 r hW c, ?_⟩
    rintro _ _ ⟨rfl, rfl⟩
    exact ⟨_, rfl, rfl, rfl⟩
  · rw [e]
    refine ⟨2, _, by decide, c_X4_countHolding zSt_1 r hW c, ?_⟩
    rintro _ _ ⟨rfl, rfl⟩
    exact ⟨_, rfl, rfl, rfl⟩
  · unfold qCell1
    rw [if_neg (by omega), if_neg (by omega), if_neg (by omega), if_neg (by omega), if_neg (by omega), if_neg (by omega), if_neg (by omega), if_neg (by omega), if_neg (by omega)]
    exact ⟨rfl, rfl⟩
theorem zFt.rfl' {h : zH} : zFt h h := fun _ _ _ => rfl
theorem c_X6_part {B : Int} {h : zH} {s : zs} {a1 a2 a3 : Int} (r : Rep s h 1) (hW : WF B s) : zSp 19 mX6_part [zR 0, zI a1, zI a2, zI a3] h (fun q h' => q = some (zI (qPart s a1 a2 a3)) ∧ zFt h h') := by
  refine zSp_of (by decide +kernel) (Nat.le_of_ble_eq_true rfl) rfl (fun Γ => k_X6_part_0  (by decide) ?_)
  unfold qPart
  refine ⟨fun c => by rw [if_neg (fun q => c q.1)]; exact ⟨rfl, zFt.rfl'⟩, fun c1 => ⟨fun c2 => ?_, fun c => by rw [if_neg (fun q => c q.2)]; exact ⟨rfl, zFt.rfl'⟩⟩⟩
  rw [if_pos ⟨c1, c2⟩]
  refine ⟨fun e => ?_, fun e => ?_, fun e => ?_, fun e => ?_, fun e => ?_, fun e => ?_, fun e => ?_⟩
  · rw [e, show h 5 = h (1 + 4) from rfl, r.h a1 a2 c1 c2]; exact ⟨c1, c2, rfl, zFt.rfl'⟩
  · rw [e]
    refine ⟨2, _, by decide, c_X3_partsLent zSt_1 r hW, ?_⟩
    rintro _ _ ⟨rfl, rfl⟩
    exact ⟨_, rfl, rfl, zFt.rfl'⟩
  · rw [e]
    refine ⟨2, _, by decide, c_X3_partsBorrowed zSt_1 r hW, ?_⟩
    rintro _ _ ⟨rfl, rfl⟩
    exact ⟨_, rfl, rfl, zFt.rfl'⟩
  · rw [e]
    have q := Rep_hold (b := 1) r c1 c2
    have b := (hW.h a1 a2 c1 c2).2
    refine ⟨c1, c2, fun c3 => ?_, fun c3 => ?_⟩
    · have z : s (36 + 6 * a2 + a1).toNat = 0 := by
        rcases b with b | b
        · exact b
        · exact absurd (q.mpr b) c3
      show some (zI 0) = some (zI (s (36 + 6 * a2 + a1).toNat)) ∧ _
      rw [z]; exact ⟨rfl, zFt.rfl'⟩
    · have z : s (36 + 6 * a2 + a1).toNat = 1 := q.mp c3
      show some (zI 1) = some (zI (s (36 + 6 * a2 + a1).toNat)) ∧ _
      rw [z]; exact ⟨rfl, zFt.rfl'⟩
  · rw [e]
    refine ⟨1, _, by decide, c_X0_placeOf zSt_1 r hW c2, ?_⟩
    rintro _ _ ⟨rfl, rfl⟩
    exact ⟨_, rfl, rfl, zFt.rfl'⟩
  · rw [e]
    refine ⟨18, _, by decide, c_X6_heldAfterGathering r hW c1 c2, ?_⟩
    rintro _ h1 ⟨rfl, f1⟩
    exact ⟨_, rfl, rfl, f1⟩
  · unfold qPart1
    rw [if_neg (by omega), if_neg (by omega), if_neg (by omega), if_neg (by omega), if_neg (by omega), if_neg (by omega)]
    exact ⟨rfl, zFt.rfl'⟩
theorem c_X6_loan {B : Int} {h : zH} {s : zs} {a1 a2 : Int} (r : Rep s h 1) (hW : WF B s) : zSp 3 mX6_loan [zR 0, zI a1, zI a2] h (fun q h' => q = some (zI (qLoan s a1 a2)) ∧ h = h') := by
  refine zSp_of (by decide +kernel) (Nat.le_of_ble_eq_true rfl) rfl (fun Γ => k_X6_loan_0  (by decide) ?_)
  have w := hW.n
  unfold WFn at w
  unfold qLoan
  refine ⟨1, _, by decide, c_X3_rowOf zSt_1 r hW.n, ?_⟩
  rintro _ _ ⟨rfl, rfl⟩
  refine ⟨_, rfl, fun c => ?_, fun c => ?_⟩
  · by_cases cp : sPlace s a1 = -5
    · rw [if_pos cp] at c; exact absurd c (by decide)
    rw [if_neg cp, if_neg cp]
    have p := sPlace_ok cp w.1
    have l := r.l _ p.1 p.2
    refine ⟨fun e => ?_, fun e => ?_, fun e => ?_, fun e => ?_, fun e => ?_, fun e => ?_⟩
    · rw [e, show h 12 = h (1 + 11) from rfl, l.2.1]; exact ⟨by omega, by omega, rfl, rfl⟩
    · rw [e, show h 13 = h (1 + 12) from rfl, l.2.2.1]; exact ⟨by omega, by omega, rfl, rfl⟩
    · rw [e, show h 14 = h (1 + 13) from rfl, l.2.2.2.1]; exact ⟨by omega, by omega, rfl, rfl⟩
    · rw [e, show h 15 = h (1 + 14) from rfl, l.2.2.2.2]; exact ⟨by omega, by omega, rfl, rfl⟩
    · rw [e, qLoan1_4]
      refine ⟨2, _, by decide, c_X4_canEndLoan zSt_1 r hW.n hW.l hW.h p, ?_⟩
      rintro _ _ ⟨⟨x, rfl, hx⟩, rfl⟩
      refine ⟨_, rfl, fun c4 => ?_, fun c4 => ?_⟩
      · rcases hx with ⟨-, q⟩ | ⟨q, -⟩
        · rw [if_neg q]; exact ⟨rfl, rfl⟩
        · exact absurd c4 (by omega)
      · rcases hx with ⟨q, -⟩ | ⟨-, q⟩
        · exact absurd q c4
        · rw [if_pos q]; exact ⟨rfl, rfl⟩
    · unfold qLoan1
      rw [if_neg (by omega), if_neg (by omega), if_neg (by omega), if_neg (by omega), if_neg (by omega)]
      exact ⟨rfl, rfl⟩
  · by_cases cp : sPlace s a1 = -5
    · rw [if_pos cp]; exact ⟨rfl, rfl⟩
    · rw [if_neg cp] at c
      exact absurd (sPlace_ok cp w.1).1 c
theorem c_X6_reason {B : Int} {h : zH} {s : zs} {a1 a2 : Int} (r : Rep s h 1) (hW : WF B s) : zSp 19 mX6_reason [zR 0, zI a1, zI a2] h (fun q h' => q = some (zI (qReason s a1 a2)) ∧ zFt h h') := by
  refine zSp_of (by decide +kernel) (Nat.le_of_ble_eq_true rfl) rfl (fun Γ => k_X6_reason_0  (by decide) ?_)
  unfold qReason
  refine ⟨fun c => by rw [if_neg (fun q => c q.1)]; exact ⟨rfl, zFt.rfl'⟩, fun c1 => ⟨fun c2 => ?_, fun c => by rw [if_neg (fun q => c q.2)]; exact ⟨rfl, zFt.rfl'⟩⟩⟩
  rw [if_pos ⟨c1, c2⟩]
  refine ⟨18, _, by decide, c_X6_heldAfterGathering r hW c1 c2, ?_⟩
  rintro _ h1 ⟨rfl, f1⟩
  refine ⟨_, rfl, fun c3 => ?_, fun c3 => by rw [if_pos c3]; exact ⟨rfl, f1⟩⟩
  rw [if_neg c3]
  refine ⟨2, _, by decide, c_X4_countHolding zSt_1 (Rep_congr r (fun k k0 k1 => f1 k (by omega) (by omega))) hW c2, ?_⟩
  rintro _ _ ⟨rfl, rfl⟩
  refine ⟨_, rfl, fun c4 => ?_, fun c4 => ?_⟩
  · rw [if_neg (by omega)]; exact ⟨rfl, f1⟩
  · rw [if_pos (by omega)]; exact ⟨rfl, f1⟩
theorem c_X6_chain {B : Int} {h : zH} {s : zs} {a1 : Int} (r : Rep s h 1) (hW : WF B s) : zSp 8 mX6_chain [zR 0, zI a1] h (fun q h' => q = some (zI (qChain s a1)) ∧ h = h') := by
  refine zSp_of (by decide +kernel) (Nat.le_of_ble_eq_true rfl) rfl (fun Γ => k_X6_chain_0  (by decide) ?_)
  unfold qChain
  refine ⟨fun c => by rw [if_neg c]; exact ⟨rfl, rfl⟩, fun c => ?_⟩
  rw [if_pos c]
  refine ⟨7, _, by decide, c_X3_longestChain zSt_1 r hW, ?_⟩
  rintro _ _ ⟨rfl, rfl⟩
  exact ⟨_, rfl, rfl, rfl⟩
theorem c_X6_count {B : Int} {h : zH} {s : zs} {a1 : Int} (r : Rep s h 1) (hW : WF B s) : zSp 4 mX6_count [zR 0, zI a1] h (fun q h' => q = some (zI (qCount s (h 46 2) (h 125 1) a1)) ∧ h = h') := by
  refine zSp_of (by decide +kernel) (Nat.le_of_ble_eq_true rfl) rfl (fun Γ => k_X6_count_0  (by decide) ?_)
  have n := r.n
  unfold RepN at n
  refine ⟨fun e => ?_, fun e => ?_, fun e => ?_, fun e => ?_, fun e => ?_, fun e => ?_, fun e => ?_, fun e => ?_, fun e => ?_, fun e => ?_⟩
  · rw [e, show h 10 5 = h (1 + 9) 5 from rfl, n.2.1]; exact ⟨rfl, rfl⟩
  · rw [e, show h 10 6 = h (1 + 9) 6 from rfl, n.2.2.1]; exact ⟨rfl, rfl⟩
  · rw [e]
    refine ⟨3, _, by decide, c_X4_countWholeCells zSt_1 r hW, ?_⟩
    rintro _ _ ⟨rfl, rfl⟩
    exact ⟨_, rfl, rfl, rfl⟩
  · rw [e]
    refine ⟨1, _, by decide, c_X0_sizeOfAll zSt_1 r hW, ?_⟩
    rintro _ _ ⟨rfl, rfl⟩
    exact ⟨_, rfl, rfl, rfl⟩
  · rw [e, n.1]; exact ⟨rfl, rfl⟩
  · rw [e, show h 10 7 = h (1 + 9) 7 from rfl, n.2.2.2]; exact ⟨rfl, rfl⟩
  · rw [e]
    refine ⟨3, _, by decide, c_X4_countAllHolding zSt_1 r hW, ?_⟩
    rintro _ _ ⟨rfl, rfl⟩
    exact ⟨_, rfl, rfl, rfl⟩
  · rw [e]; exact ⟨rfl, rfl⟩
  · rw [e]; exact ⟨rfl, rfl⟩
  · unfold qCount
    rw [if_neg (by omega), if_neg (by omega), if_neg (by omega), if_neg (by omega), if_neg (by omega), if_neg (by omega), if_neg (by omega), if_neg (by omega), if_neg (by omega)]
    exact ⟨rfl, rfl⟩
