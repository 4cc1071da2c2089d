/-! p26: the class's object with its history; what the law's helpers do to it -/
def iQ (B : Int) (s : zs) (n : Nat) (H : Nat → zs) (h : zH) : Prop := CInv B s n H h ∧ WQ s ∧ ∀ i : Nat, i < n → WQ (H i)
theorem iQ.ft {B : Int} {s : zs} {n : Nat} {H : Nat → zs} {h h' : zH} (I : iQ B s n H h) (f : zFt h h') : iQ B s n H h' := ⟨CInv_fr I.1 (fun k hk => f k (by omega) (by omega)), I.2⟩
theorem iQ.up {B B' : Int} {s : zs} {n : Nat} {H : Nat → zs} {h : zH} (I : iQ B s n H h) (hB : B ≤ B') : iQ B' s n H h := ⟨CInv_up I.1 hB, I.2⟩
theorem iQ_act {B B' : Int} {s : zs} {n : Nat} {H : Nat → zs} {op : Int × zs} {h h' : zH} (I : iQ B s n H h) (a : cAct B' s n H op h h') (w : WQ op.2) : ∃ (s' : zs) (n' : Nat) (H' : Nat → zs), iQ B' s' n' H' h' ∧ (op.1 < 0 → s' = s) ∧ (0 ≤ op.1 → s' = op.2 ∧ n' = pushN n ∧ H' = pushH n H s) := by
  obtain ⟨I1, I2, I3⟩ := I
  obtain ⟨a1, a2, -⟩ := a
  by_cases c : op.1 < 0
  · exact ⟨s, n, H, ⟨a1 c, I2, I3⟩, fun _ => rfl, fun z => absurd z (by omega)⟩
  · refine ⟨op.2, pushN n, pushH n H s, ⟨a2 (by omega), w, fun i hi => ?_⟩, fun z => absurd z c, fun _ => ⟨rfl, rfl, rfl⟩⟩
    have n4 := I1.2.2.2.2.1
    unfold pushN at hi
    unfold pushH
    by_cases e : n = 4
    · rw [if_pos e] at hi
      rw [if_pos e]
      by_cases e2 : i < 3
      · rw [if_pos e2]
        exact I3 _ (by omega)
      · rw [if_neg e2]
        exact I2
    · rw [if_neg e] at hi
      rw [if_neg e]
      by_cases e2 : i < n
      · rw [if_pos e2]
        exact I3 _ e2
      · rw [if_neg e2]
        exact I2
theorem pushH_top {n : Nat} {H : Nat → zs} {s : zs} : pushN n ≠ 0 ∧ pushH n H s (pushN n - 1) = s := by
  unfold pushN pushH
  by_cases e : n = 4
  · rw [if_pos e, if_pos e]
    exact ⟨by decide, if_neg (by decide)⟩
  · rw [if_neg e, if_neg e]
    exact ⟨by omega, if_neg (by omega)⟩
set_option maxHeartbeats 4000000 in
theorem c_L_isGatherSo {B : Int} {s : zs} {n : Nat} {H : Nat → zs} {h : zH} {a c : Int} (I : iQ B s n H h) (ha : 0 ≤ a ∧ a ≤ 5) (hc : 0 ≤ c ∧ c ≤ 5) : zSp 20 mL_isGatherSo [zR 0, zI a, zI c] h (fun r h' => r = some (zI 1) ∧ ∃ (s' : zs) (n' : Nat) (H' : Nat → zs), iQ B s' n' H' h') := by
  refine zSp_of (by decide +kernel) (Nat.le_of_ble_eq_true rfl) rfl (fun Γ => k_L_isGatherSo_0  (by decide) ?_)
  have hW := I.1.2.1
  obtain ⟨g1, g2⟩ := gat_ok (B := B) (c := c) 6 0 s a hW (Nat.zero_testBit _)
  have gq := WQ_gat (c := c) (a := a) hW I.2.1
  have w5 := (g1.h a c ha hc).1
  have na := hW.n
  have nb := g1.n
  unfold WFn at na nb
  have p5 : qPart s a c 5 = gat c 6 0 s a (6 * c + a).toNat := if_pos ⟨ha, hc⟩
  have p0 : ∀ t : zs, qPart t a c 0 = t (6 * c + a).toNat := fun t => if_pos ⟨ha, hc⟩
  have c0 : ∀ t : zs, qCell t c 0 = t (114 + c).toNat := fun t => if_pos hc
  refine ⟨19, _, by decide, c_X6_part I.1.1 hW, ?_⟩
  rintro _ h1 ⟨rfl, f1⟩
  have I1 := I.ft f1
  refine ⟨_, rfl, ?_⟩
  rw [p5]
  refine ⟨19, _, by decide, c_X6_part I1.1.1 hW, ?_⟩
  rintro _ h2 ⟨rfl, f2⟩
  have I2 := I1.ft f2
  refine ⟨_, rfl, ?_⟩
  rw [p0]
  refine ⟨3, _, by decide, c_X6_cell I2.1.1 hW, ?_⟩
  rintro _ _ ⟨rfl, rfl⟩
  refine ⟨_, rfl, ?_⟩
  rw [c0]
  refine ⟨4, _, by decide, c_X6_count I2.1.1 hW, ?_⟩
  rintro _ _ ⟨rfl, rfl⟩
  refine ⟨s 132, rfl, ?_⟩
  refine ⟨4, _, by decide, c_X6_count I2.1.1 hW, ?_⟩
  rintro _ _ ⟨rfl, rfl⟩
  refine ⟨s 135, rfl, ?_⟩
  refine ⟨19, _, by decide, c_X6_gather I2.1, ?_⟩
  rintro _ h3 ⟨rfl, ac⟩
  by_cases k : gat c 6 0 s a 135 = s 135
  · have og : opGather s a c = (-5, s) := by
      unfold opGather
      rw [if_neg (fun z => z ha), if_neg (fun z => z hc), if_pos k]
    have eg : gat c 6 0 s a = s := g2.2.2.1 k
    rw [og] at ac
    obtain ⟨s3, n3, H3, I3, e3, -⟩ := iQ_act I2 ac I.2.1
    have e4 : s3 = s := e3 (by show (-5 : Int) < 0; decide)
    rw [e4] at I3
    rw [og, eg]
    refine ⟨-5, rfl, fun e => absurd rfl e, fun _ => ⟨fun e => absurd rfl e, fun _ => ?_⟩⟩
    refine ⟨4, _, by decide, c_X6_count I3.1.1 hW, ?_⟩
    rintro _ _ ⟨rfl, rfl⟩
    exact ⟨s 132, rfl, fun e => absurd rfl e, fun _ => ⟨rfl, s, n3, H3, I3⟩⟩
  · have og : opGather s a c = (gat c 6 0 s a (6 * c + a).toNat, gat c 6 0 s a) := by
      unfold opGather
      rw [if_neg (fun z => z ha), if_neg (fun z => z hc), if_neg k]
    rw [og] at ac
    obtain ⟨s3, n3, H3, I3, -, e3⟩ := iQ_act I2 ac gq
    obtain ⟨e4, e5, e6⟩ := e3 w5
    have e4 : s3 = gat c 6 0 s a := e4
    rw [e4] at I3
    rw [og]
    have e114 : gat c 6 0 s a (114 + c).toNat = s (114 + c).toNat := g2.2.2.2.1 _ (by omega) (by omega)
    have e133 := g2.1
    have e135 := g2.2.1
    generalize gat c 6 0 s a = g at *
    refine ⟨g (6 * c + a).toNat, rfl, fun _ => ⟨fun e => absurd rfl e, fun _ => ?_⟩, fun e => absurd w5 (by omega)⟩
    refine ⟨19, _, by decide, c_X6_part I3.1.1 g1, ?_⟩
    rintro _ h4 ⟨rfl, f4⟩
    have I4 := I3.ft f4
    refine ⟨_, rfl, ?_⟩
    rw [p0]
    refine ⟨fun e => absurd rfl e, fun _ => ?_⟩
    refine ⟨3, _, by decide, c_X6_cell I4.1.1 g1, ?_⟩
    rintro _ _ ⟨rfl, rfl⟩
    refine ⟨_, rfl, ?_⟩
    rw [c0, e114]
    refine ⟨fun e => absurd rfl e, fun _ => ?_⟩
    refine ⟨4, _, by decide, c_X6_count I4.1.1 g1, ?_⟩
    rintro _ _ ⟨rfl, rfl⟩
    refine ⟨g 135, rfl, ?_⟩
    refine ⟨4, _, by decide, c_X6_count I4.1.1 g1, ?_⟩
    rintro _ _ ⟨rfl, rfl⟩
    refine ⟨g 132, rfl, ?_⟩
    refine ⟨fun e => absurd (by congr 1; omega) e, fun _ => ?_⟩
    refine ⟨4, _, by decide, c_X6_count I4.1.1 g1, ?_⟩
    rintro _ _ ⟨rfl, rfl⟩
    refine ⟨g 132, rfl, fun e => absurd e (by omega), fun _ => ?_⟩
    refine k_L_isGatherSo_138 (by decide) ?_
    refine ⟨3, _, by decide, c_X6_undo I4.1, ?_⟩
    rintro _ h5 (⟨z, -⟩ | ⟨z, rfl, I5, -⟩)
    · rw [e5] at z
      exact absurd z (pushH_top (H := H) (s := s)).1
    · have t : H3 (n3 - 1) = s := by rw [e5, e6]; exact pushH_top.2
      rw [t] at I5
      refine ⟨_, rfl, fun e => absurd e (by decide), fun _ => ⟨fun e => absurd e (by omega), fun _ => ?_⟩⟩
      refine ⟨19, _, by decide, c_X6_part I5.1 I5.2.1, ?_⟩
      rintro _ h6 ⟨rfl, f6⟩
      refine ⟨_, rfl, ?_⟩
      rw [p0]
      refine ⟨fun e => absurd rfl e, fun _ => ?_⟩
      have I6 : iQ B s (n3 - 1) H3 h6 := iQ.ft ⟨I5, I.2.1, fun i hi => I4.2.2 i (by omega)⟩ f6
      refine ⟨4, _, by decide, c_X6_count I6.1.1 I6.1.2.1, ?_⟩
      rintro _ _ ⟨rfl, rfl⟩
      exact ⟨s 132, rfl, fun e => absurd rfl e, fun _ => ⟨rfl, s, n3 - 1, H3, I6⟩⟩
