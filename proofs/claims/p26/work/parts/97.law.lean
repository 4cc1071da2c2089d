/-! p26: the law's loop -/
set_option maxHeartbeats 4000000 in
theorem law_iter {Γ : yCx} {h : zH} {s : zs} {n : Nat} {H : Nat → zs} {m : Nat} (I : iQ (m : Int) s n H h) (hm : m < 48) (K : ∀ (h' : zH) (s' : zs) (n' : Nat) (H' : Nat → zs), iQ ((m + 1 : Nat) : Int) s' n' H' h' → yV Γ 10 [(0, zR 128), (1, zR 0), (2, zI ((m + 1 : Nat) : Int))] [] h') : yV Γ 10 [(0, zR 128), (1, zR 0), (2, zI (m : Int))] [] h := by
  have s167 : ∀ (h' : zH) (s' : zs) (n' : Nat) (H' : Nat → zs) (v3 v5 v6 v7 v8 v9 w0 w1 w2 : Int), iQ ((m + 1 : Nat) : Int) s' n' H' h' → w2 = zwr (w1 + w0) → yV Γ 167 [(0, zR 128), (1, zR 0), (2, zI (m : Int)), (3, zI v3), (4, zI (zlow (zshr v3 10) 2)), (5, zI v5), (6, zI v6), (7, zI v7), (8, zI v8), (9, zI v9)] [zI w0, zI w1, zI w2] h' := by
    intro h' s' n' H' v3 v5 v6 v7 v8 v9 w0 w1 w2 I' ew
    have b := zlow_bd (v := zshr v3 10) (n := 2) (by decide)
    refine k_L_law_167 ⟨fun _ => ?_, fun e => absurd ew e⟩
    refine ⟨20, _, by decide, c_L_isCellSo I'.1.1 I'.1.2.1 I'.2.1 ⟨by omega, by omega⟩, ?_⟩
    rintro _ h1 ⟨rfl, f1⟩
    have I1 := I'.ft f1
    refine ⟨1, rfl, fun e => absurd e (by decide), fun _ => ⟨fun _ => ?_, fun _ => ?_⟩⟩
    · intro x8 e8
      rw [zstep e8 (by omega)]
      exact K h1 s' n' H' I1
    · have b1 := zlow_bd (v := zshr v3 5) (n := 6) (by decide)
      have b2 := zlow_bd (v := zshr v3 8) (n := 2) (by decide)
      refine ⟨20, _, by decide, c_L_isGatherSo I1 ⟨by omega, by omega⟩ ⟨by omega, by omega⟩, ?_⟩
      rintro _ h2 ⟨rfl, s2, n2, H2, I2⟩
      refine ⟨1, rfl, fun _ => ?_, fun e => absurd e (by decide)⟩
      intro x16 e16
      rw [zstep e16 (by omega)]
      exact K h2 s2 n2 H2 I2
  have s148 : ∀ (h' : zH) (s' : zs) (n' : Nat) (H' : Nat → zs) (v3 v5 v6 v7 v8 v9 : Int), iQ ((m + 1 : Nat) : Int) s' n' H' h' → 0 ≤ v6 → v6 ≤ 100 → qCell s' (zlow (zshr v3 10) 2) 1 = v6 + (if v9 = 0 then 0 else 1) → yV Γ 148 [(0, zR 128), (1, zR 0), (2, zI (m : Int)), (3, zI v3), (4, zI (zlow (zshr v3 10) 2)), (5, zI v5), (6, zI v6), (7, zI v7), (8, zI v8), (9, zI v9)] [] h' := by
    intro h' s' n' H' v3 v5 v6 v7 v8 v9 I' b0 b1 hq
    refine k_L_law_148 ?_
    refine ⟨3, _, by decide, c_X6_cell I'.1.1 I'.1.2.1, ?_⟩
    rintro _ _ ⟨rfl, rfl⟩
    refine ⟨_, rfl, fun e => ?_, fun e => ?_⟩
    · exact s167 _ s' n' H' v3 v5 v6 v7 v8 v9 0 v6 _ I' (by rw [hq, if_pos e, zwr_eq (by omega) (by omega)])
    · exact s167 _ s' n' H' v3 v5 v6 v7 v8 v9 1 v6 _ I' (by rw [hq, if_neg e, zwr_eq (by omega) (by omega)])
  refine k_L_law_10 ⟨fun e => absurd e (by omega), fun _ => ⟨by omega, fun x2 => ?_⟩⟩
  rintro _ rfl
  have b := zlow_bd (v := zshr x2 10) (n := 2) (by decide)
  have hc : 0 ≤ zlow (zshr x2 10) 2 ∧ zlow (zshr x2 10) 2 ≤ 5 := ⟨by omega, by omega⟩
  refine ⟨3, _, by decide, c_X6_cell I.1.1 I.1.2.1, ?_⟩
  rintro _ _ ⟨rfl, rfl⟩
  refine ⟨_, rfl, 3, _, by decide, c_X6_cell I.1.1 I.1.2.1, ?_⟩
  rintro _ _ ⟨rfl, rfl⟩
  refine ⟨_, rfl, 20, _, by decide, c_L_does I (by omega), ?_⟩
  rintro r1 h1 ⟨x, s', n', H', rfl, I', d1, d2, d3⟩
  refine ⟨x, rfl, ?_⟩
  have I2 : iQ ((m + 1 : Nat) : Int) s' n' H' h1 := by
    rw [show ((m + 1 : Nat) : Int) = (m : Int) + 1 by omega]
    exact I'
  have q5 : qCell s (zlow (zshr x2 10) 2) 5 = (if s (108 + zlow (zshr x2 10) 2).toNat = 0 then -5 else s (72 + 6 * zlow (zshr x2 10) 2).toNat) := if_pos hc
  have q1 : ∀ t : zs, qCell t (zlow (zshr x2 10) 2) 1 = t (120 + zlow (zshr x2 10) 2).toNat := fun t => if_pos hc
  have bv := (I.1.2.1.v _ hc).2.1
  have s113 : ∀ v8 w : Int, (¬ v8 = 0 → x = qCell s (zlow (zshr x2 10) 2) 5 ∧ (0 ≤ x ∧ x ≤ 5) ∧ s' (6 * zlow (zshr x2 10) 2 + x).toNat = 64) → w = (if zand x2 15 = 9 ∧ 0 ≤ x then 1 else 0) → yV Γ 113 [(0, zR 128), (1, zR 0), (2, zI (m : Int)), (3, zI x2), (4, zI (zlow (zshr x2 10) 2)), (5, zI (qCell s (zlow (zshr x2 10) 2) 5)), (6, zI (qCell s (zlow (zshr x2 10) 2) 1)), (7, zI x), (8, zI v8)] [zI w] h1 := by
    intro v8 w hv hw
    have hq : qCell s' (zlow (zshr x2 10) 2) 1 = qCell s (zlow (zshr x2 10) 2) 1 + (if w = 0 then 0 else 1) := by
      rw [q1, q1, d2]
      by_cases z : zand x2 15 = 9 ∧ 0 ≤ x
      · rw [if_pos z] at hw ⊢
        rw [if_neg (by omega)]
      · rw [if_neg z] at hw ⊢
        rw [if_pos hw]
    have b6 : 0 ≤ qCell s (zlow (zshr x2 10) 2) 1 ∧ qCell s (zlow (zshr x2 10) 2) 1 ≤ 100 := by
      rw [q1]
      omega
    refine k_L_law_113 ⟨fun e => absurd e (by omega), fun _ => ⟨fun _ => s148 h1 s' n' H' x2 _ _ _ _ _ I2 b6.1 b6.2 hq, fun e => ?_⟩⟩
    obtain ⟨z1, z2, z3⟩ := hv e
    refine ⟨fun e2 => absurd z1 e2, fun _ => ?_⟩
    refine ⟨19, _, by decide, c_X6_part I2.1.1 I2.1.2.1, ?_⟩
    rintro _ h2 ⟨rfl, f2⟩
    have p0 : qPart s' x (zlow (zshr x2 10) 2) 0 = s' (6 * zlow (zshr x2 10) 2 + x).toNat := if_pos ⟨z2, hc⟩
    exact ⟨64, by rw [p0, z3], fun e2 => absurd rfl e2, fun _ => s148 h2 s' n' H' x2 _ _ _ _ _ (I2.ft f2) b6.1 b6.2 hq⟩
  have s92 : ∀ v8 : Int, (¬ v8 = 0 → x = qCell s (zlow (zshr x2 10) 2) 5 ∧ (0 ≤ x ∧ x ≤ 5) ∧ s' (6 * zlow (zshr x2 10) 2 + x).toNat = 64) → yV Γ 92 [(0, zR 128), (1, zR 0), (2, zI (m : Int)), (3, zI x2), (4, zI (zlow (zshr x2 10) 2)), (5, zI (qCell s (zlow (zshr x2 10) 2) 5)), (6, zI (qCell s (zlow (zshr x2 10) 2) 1)), (7, zI x)] [zI v8] h1 := by
    intro v8 hv
    refine k_L_law_92 ⟨fun e => k_L_law_112 (s113 v8 0 hv (by rw [if_neg (fun z => e z.1)])), fun e => ⟨fun e2 => k_L_law_112 (s113 v8 0 hv (by rw [if_neg (fun z => by omega)])), fun e2 => s113 v8 1 hv (by rw [if_pos ⟨e, by omega⟩])⟩⟩
  have s75 : (zand x2 15 = 12 ∨ zand x2 15 = 13) → yV Γ 75 [(0, zR 128), (1, zR 0), (2, zI (m : Int)), (3, zI x2), (4, zI (zlow (zshr x2 10) 2)), (5, zI (qCell s (zlow (zshr x2 10) 2) 5)), (6, zI (qCell s (zlow (zshr x2 10) 2) 1)), (7, zI x)] [] h1 := by
    intro ho
    refine k_L_law_75 ⟨fun e => k_L_law_91 (s92 0 (fun z => absurd rfl z)), fun e => ⟨fun e2 => k_L_law_91 (s92 0 (fun z => absurd rfl z)), fun e2 => s92 1 (fun _ => ?_)⟩⟩
    obtain ⟨z1, z2, z3, z4⟩ := d3 ho (by omega) (by omega)
    refine ⟨?_, z3, z4⟩
    rw [q5, if_neg z1]
    exact z2
  exact ⟨fun e => s75 (Or.inl e), fun _ => ⟨fun _ => k_L_law_91 (s92 0 (fun z => absurd rfl z)), fun e => s75 (Or.inr e)⟩⟩
theorem law_loop {Γ : yCx} (K : ∀ (h : zH) (v : Int), yV Γ 220 [(0, zR 128), (1, zR 0), (2, zI v)] [] h) : ∀ k m : Nat, k + m = 48 → ∀ (h : zH) (s : zs) (n : Nat) (H : Nat → zs), iQ (m : Int) s n H h → yV Γ 10 [(0, zR 128), (1, zR 0), (2, zI (m : Int))] [] h := by
  intro k
  induction k with
  | zero =>
    intro m hm h s n H _
    exact k_L_law_10 ⟨fun _ => K h _, fun e => absurd (by omega) e⟩
  | succ k ih =>
    intro m hm h s n H I
    exact law_iter I (by omega) (fun h' s' n' H' I' => ih (m + 1) (by omega) h' s' n' H' I')
theorem s0_46 : h00 46 1 = 0 ∧ h00 46 2 = 0 := by decide +kernel
theorem start_WQ : WQ s00 := by
  refine ⟨fun a c ha hc e => ?_, fun x x0 x1 => ?_⟩
  · obtain ⟨a', a1, rfl⟩ := n6 ha
    obtain ⟨c', c1, rfl⟩ := n6 hc
    obtain ⟨-, e2, -⟩ := s0_h c' c1 a' a1
    rw [show (36 + 6 * (c' : Int) + (a' : Int)).toNat = 36 + 6 * c' + a' by omega, e2] at e
    exact absurd e (by decide)
  · rw [s0_cnt.1] at x1
    omega
theorem start_iQ : iQ ((0 : Nat) : Int) s00 0 (fun _ => s00) h00 :=
  ⟨⟨start_Rep, start_WF, by rw [s0_46.1]; decide, s0_46.2, by decide, fun i hi => absurd hi (Nat.not_lt_zero i)⟩, start_WQ, fun i hi => absurd hi (Nat.not_lt_zero i)⟩
