/-! p26: what the law asks of a cell holds of every state -/
theorem zFt.tr {h h1 h2 : zH} (a : zFt h h1) (b : zFt h1 h2) : zFt h h2 := fun k k0 k1 => by rw [b k k0 k1, a k k0 k1]
set_option maxHeartbeats 4000000 in
theorem cs_iter {B : Int} {Post : Option zA → zH → Prop} {Γ : zCx} {h0 h : zH} {s : zs} {c v : Int} {m : Nat} (r : Rep s h0 1) (hW : WF B s) (q : WQ s) (hc : 0 ≤ c ∧ c ≤ 5) (hm : m < 6) (f : zFt h0 h)
    (K : ∀ h' : zH, zFt h0 h' → (fun (d : Nat) => zV RL cL_isCellSo 15 (some .boolean) d Post Γ 63 [(0, zR 0), (1, zI c), (2, zI (hSum s c (m + 1))), (3, zI (sAg s c 3 (m + 1))), (4, zI (sAg s c 8 (m + 1))), (5, zI (sWh s c (m + 1))), (6, zI (sPln s c (m + 1))), (7, zI ((sPls s c (m + 1) : Nat) : Int)), (8, zI v), (9, zI (((m + 1) : Nat) : Int))] [] h') 20) : (fun (d : Nat) => zV RL cL_isCellSo 15 (some .boolean) d Post Γ 63 [(0, zR 0), (1, zI c), (2, zI (hSum s c m)), (3, zI (sAg s c 3 m)), (4, zI (sAg s c 8 m)), (5, zI (sWh s c m)), (6, zI (sPln s c m)), (7, zI ((sPls s c m : Nat) : Int)), (8, zI v), (9, zI ((m : Nat) : Int))] [] h) 20 := by
  have ha : 0 ≤ (m : Int) ∧ (m : Int) ≤ 5 := ⟨by omega, by omega⟩
  have R : ∀ h' : zH, zFt h0 h' → Rep s h' 1 := fun h' g => Rep_congr r (fun k k0 k1 => g k (by omega) (by omega))
  have hh := WF_held hW.h hW.s ha hc
  have b2 := hSum_bd hW hc m (by omega)
  have b3 := sAg_bd hW.h (w := 3) hc m (by omega)
  have b8 := sAg_bd hW.h (w := 8) hc m (by omega)
  have b6 := sPln_bd (s := s) (c := c) m
  obtain ⟨p7, -⟩ := sPls_ok hW.c hc m (by omega)
  obtain ⟨g1, -⟩ := gat_ok (B := B) (c := c) 6 0 s (m : Int) hW (Nat.zero_testBit _)
  have bg := WF_held g1.h g1.s ha hc
  have bo := (hW.v c hc).2.2
  have bv := (hW.v c hc).1
  have hpl := sPlC_bd (a := (m : Int)) hW.c hc
  have hsp := held_split hW ha hc
  have hho := (hW.h (m : Int) c ha hc).2
  have hwq := q.1 (m : Int) c ha hc
  have n132 := hW.n.2.1
  have n132b := hW.n.1
  have bs1 := sSum_bd hW (a := (m : Int)) (c := c) (w := 1) (s 132).toNat (by omega)
  have bs2 := sSum_bd hW (a := (m : Int)) (c := c) (w := 2) (s 132).toNat (by omega)
  have c2 : qCell s c 2 = s (126 + c).toNat := if_pos hc
  have c5 : qCell s c 5 = (if s (108 + c).toNat = 0 then -5 else s (72 + 6 * c).toNat) := if_pos hc
  have p0 : qPart s (m : Int) c 0 = s (6 * c + (m : Int)).toNat := if_pos ⟨ha, hc⟩
  have p1 : qPart s (m : Int) c 1 = sSum s (m : Int) c 1 (s 132).toNat := if_pos ⟨ha, hc⟩
  have p2 : qPart s (m : Int) c 2 = sSum s (m : Int) c 2 (s 132).toNat := if_pos ⟨ha, hc⟩
  have p3 : qPart s (m : Int) c 3 = s (36 + 6 * c + (m : Int)).toNat := if_pos ⟨ha, hc⟩
  have p4 : qPart s (m : Int) c 4 = sPlC s (m : Int) c := if_pos ⟨ha, hc⟩
  have p5 : qPart s (m : Int) c 5 = gat c 6 0 s (m : Int) (6 * c + (m : Int)).toNat := if_pos ⟨ha, hc⟩
  have qr : qReason s (m : Int) c = (if gat c 6 0 s (m : Int) (6 * c + (m : Int)).toNat = 64 then 0 else if 0 < sAg s c 8 6 then 1 else 2) := if_pos ⟨ha, hc⟩
  have qd : qRead s (m : Int) c = (if s (6 * c + (m : Int)).toNat = 0 then -4 else s (114 + c).toNat) := if_pos ⟨ha, hc⟩
  have a2 : hSum s c (m + 1) = hSum s c m + s (6 * c + (m : Int)).toNat := rfl
  have a3 : sAg s c 3 (m + 1) = sAg s c 3 m + (if 0 < s (6 * c + (m : Int)).toNat then 1 else 0) := by
    show sAg s c 3 m + (if (3 : Int) = 8 then s (36 + 6 * c + (m : Int)).toNat else if 0 < s (6 * c + (m : Int)).toNat then 1 else 0) = _
    rw [if_neg (by decide)]
  have a8 : sAg s c 8 (m + 1) = sAg s c 8 m + s (36 + 6 * c + (m : Int)).toNat := by
    show sAg s c 8 m + (if (8 : Int) = 8 then s (36 + 6 * c + (m : Int)).toNat else if 0 < s (6 * c + (m : Int)).toNat then 1 else 0) = _
    rw [if_pos rfl]
  have a5 : sWh s c (m + 1) = (if s (6 * c + (m : Int)).toNat = 64 then (m : Int) else sWh s c m) := rfl
  have a6 : sPln s c (m + 1) = sPln s c m + (if 0 ≤ sPlC s (m : Int) c then 1 else 0) := rfl
  have a7 : sPls s c (m + 1) = (if 0 ≤ sPlC s (m : Int) c then sPls s c m ||| 1 <<< (sPlC s (m : Int) c).toNat else sPls s c m) := rfl
  generalize s (6 * c + (m : Int)).toNat = hd at *
  generalize sPlC s (m : Int) c = pl at *
  generalize gat c 6 0 s (m : Int) (6 * c + (m : Int)).toNat = gt at *
  obtain ⟨own, eown⟩ : ∃ x : Int, x = (if s (126 + c).toNat = (m : Int) then 64 else 0) := ⟨_, rfl⟩
  have hown : own = 0 ∨ own = 64 := by rw [eown]; split; exact Or.inr rfl; exact Or.inl rfl
  rw [← eown] at hsp
  have s324 : ∀ (h' : zH) (w : Int), zFt h0 h' → (fun (d : Nat) => zV RL cL_isCellSo 15 (some .boolean) d Post Γ 324 [(0, zR 0), (1, zI c), (2, zI (hSum s c (m + 1))), (3, zI (sAg s c 3 (m + 1))), (4, zI (sAg s c 8 (m + 1))), (5, zI (sWh s c (m + 1))), (6, zI (sPln s c (m + 1))), (7, zI ((sPls s c (m + 1) : Nat) : Int)), (8, zI v), (9, zI ((m : Nat) : Int)), (10, zI hd), (11, zI pl), (12, zI gt), (13, zI own), (14, zI 1)] [zI w, zI w] h') 20 := by
    intro h' w f'
    refine k_L_isCellSo_324 (by decide) ⟨fun e => absurd rfl e, fun _ => ⟨fun e => ?_, fun e => ?_⟩⟩
    · intro x1 e1
      rw [zstep e1 (by omega)]
      exact K h' f'
    · refine ⟨3, _, by decide, c_X6_cell (R h' f') hW, ?_⟩
      rintro _ _ ⟨rfl, rfl⟩
      refine ⟨(m : Int), ?_, fun z => absurd rfl z, fun _ => ?_⟩
      · rcases hpl with z | ⟨z1, z2, z3, z4⟩
        · omega
        · rw [e, show 72 + 6 * c + 0 = 72 + 6 * c by omega] at z4
          rw [c5, if_neg (by omega), z4]
      · intro x9 e9
        rw [zstep e9 (by omega)]
        exact K _ f'
  have s312 : ∀ (h' : zH) (w : Int), zFt h0 h' → w = (if gt = 64 then 1 else 0) → (fun (d : Nat) => zV RL cL_isCellSo 15 (some .boolean) d Post Γ 312 [(0, zR 0), (1, zI c), (2, zI (hSum s c (m + 1))), (3, zI (sAg s c 3 (m + 1))), (4, zI (sAg s c 8 (m + 1))), (5, zI (sWh s c (m + 1))), (6, zI (sPln s c (m + 1))), (7, zI ((sPls s c (m + 1) : Nat) : Int)), (8, zI v), (9, zI ((m : Nat) : Int)), (10, zI hd), (11, zI pl), (12, zI gt), (13, zI own), (14, zI 1)] [zI w] h') 20 := by
    intro h' w f' e0
    refine k_L_isCellSo_312 (by decide) ⟨fun e => ?_, fun e => ?_⟩
    · rw [e0, if_neg e]
      exact s324 h' 0 f'
    · rw [e0, if_pos e]
      exact s324 h' 1 f'
  have s278 : ∀ h' : zH, zFt h0 h' → (fun (d : Nat) => zV RL cL_isCellSo 15 (some .boolean) d Post Γ 278 [(0, zR 0), (1, zI c), (2, zI (hSum s c (m + 1))), (3, zI (sAg s c 3 (m + 1))), (4, zI (sAg s c 8 (m + 1))), (5, zI (sWh s c (m + 1))), (6, zI (sPln s c (m + 1))), (7, zI ((sPls s c (m + 1) : Nat) : Int)), (8, zI v), (9, zI ((m : Nat) : Int)), (10, zI hd), (11, zI pl), (12, zI gt), (13, zI own)] [zI 1] h') 20 := by
    intro h' f'
    refine k_L_isCellSo_278 (by decide) ⟨fun e => absurd e (by decide), fun _ => ⟨fun e => absurd e (by omega), fun _ => ⟨fun e => absurd e (by omega), fun _ => ?_⟩⟩⟩
    refine ⟨19, _, by decide, c_X6_reason (R h' f') hW, ?_⟩
    rintro _ h1 ⟨rfl, f1⟩
    refine ⟨_, rfl, fun e => ?_, fun e => ?_⟩
    · refine s312 h1 0 (f'.tr f1) ?_
      by_cases z : gt = 64
      · rw [qr, if_pos z] at e
        exact absurd rfl e
      · rw [if_neg z]
    · refine s312 h1 1 (f'.tr f1) ?_
      by_cases z : gt = 64
      · rw [if_pos z]
      · rw [qr, if_neg z] at e
        by_cases z2 : 0 < sAg s c 8 6
        · rw [if_pos z2] at e
          exact absurd e (by decide)
        · rw [if_neg z2] at e
          exact absurd e (by decide)
  have s270 : ∀ (h' : zH) (w : Int), zFt h0 h' → (fun (d : Nat) => zV RL cL_isCellSo 15 (some .boolean) d Post Γ 270 [(0, zR 0), (1, zI c), (2, zI (hSum s c (m + 1))), (3, zI (sAg s c 3 (m + 1))), (4, zI (sAg s c 8 (m + 1))), (5, zI (sWh s c (m + 1))), (6, zI (sPln s c (m + 1))), (7, zI ((sPls s c (m + 1) : Nat) : Int)), (8, zI v), (9, zI ((m : Nat) : Int)), (10, zI hd), (11, zI pl), (12, zI gt), (13, zI own)] [zI w, zI w] h') 20 := fun h' w f' => k_L_isCellSo_270 (by decide) ⟨fun e => absurd rfl e, fun _ => s278 h' f'⟩
  have s260 : ∀ (h' : zH) (w : Int), zFt h0 h' → w = (if 0 < hd then 1 else 0) → (fun (d : Nat) => zV RL cL_isCellSo 15 (some .boolean) d Post Γ 260 [(0, zR 0), (1, zI c), (2, zI (hSum s c (m + 1))), (3, zI (sAg s c 3 (m + 1))), (4, zI (sAg s c 8 (m + 1))), (5, zI (sWh s c (m + 1))), (6, zI (sPln s c (m + 1))), (7, zI ((sPls s c (m + 1) : Nat) : Int)), (8, zI v), (9, zI ((m : Nat) : Int)), (10, zI hd), (11, zI pl), (12, zI gt), (13, zI own)] [zI w] h') 20 := by
    intro h' w f' e0
    refine k_L_isCellSo_260 (by decide) ⟨fun e => ?_, fun e => ?_⟩
    · rw [e0, if_neg (by omega)]
      exact s270 h' 0 f'
    · rw [e0, if_pos (by omega)]
      exact s270 h' 1 f'
  have s245 : ∀ h' : zH, zFt h0 h' → (fun (d : Nat) => zV RL cL_isCellSo 15 (some .boolean) d Post Γ 245 [(0, zR 0), (1, zI c), (2, zI (hSum s c (m + 1))), (3, zI (sAg s c 3 (m + 1))), (4, zI (sAg s c 8 (m + 1))), (5, zI (sWh s c (m + 1))), (6, zI (sPln s c (m + 1))), (7, zI ((sPls s c (m + 1) : Nat) : Int)), (8, zI v), (9, zI ((m : Nat) : Int)), (10, zI hd), (11, zI pl), (12, zI gt), (13, zI own)] [] h') 20 := by
    intro h' f'
    refine k_L_isCellSo_245 (by decide) ?_
    refine ⟨2, _, by decide, c_X6_read (R h' f'), ?_⟩
    rintro _ _ ⟨rfl, rfl⟩
    refine ⟨_, rfl, fun e => ?_, fun e => ?_⟩
    · refine s260 _ 0 f' ?_
      by_cases z : hd = 0
      · rw [if_neg (by omega)]
      · rw [qd, if_neg z] at e
        omega
    · refine s260 _ 1 f' ?_
      by_cases z : hd = 0
      · rw [qd, if_pos z] at e
        omega
      · rw [if_pos (by omega)]
  have s196 : ∀ (h' : zH) (w : Int), zFt h0 h' → zor ((sPls s c m : Nat) : Int) w = ((sPls s c (m + 1) : Nat) : Int) → (fun (d : Nat) => zV RL cL_isCellSo 15 (some .boolean) d Post Γ 196 [(0, zR 0), (1, zI c), (2, zI (hSum s c (m + 1))), (3, zI (sAg s c 3 (m + 1))), (4, zI (sAg s c 8 (m + 1))), (5, zI (sWh s c (m + 1))), (6, zI (sPln s c (m + 1))), (7, zI ((sPls s c m : Nat) : Int)), (8, zI v), (9, zI ((m : Nat) : Int)), (10, zI hd), (11, zI pl), (12, zI gt), (13, zI own)] [zI w, zI ((sPls s c m : Nat) : Int)] h') 20 := by
    intro h' w f' e0
    refine k_L_isCellSo_196 (by decide) ?_
    intro x1 e1
    rw [e1, e0]
    refine ⟨fun e => absurd e (by omega), fun _ => ?_⟩
    refine ⟨19, _, by decide, c_X6_part (R h' f') hW, ?_⟩
    rintro _ h1 ⟨rfl, f1⟩
    refine ⟨_, rfl, ?_⟩
    rw [p2]
    refine ⟨19, _, by decide, c_X6_part (R h1 (f'.tr f1)) hW, ?_⟩
    rintro _ h2 ⟨rfl, f2⟩
    refine ⟨_, rfl, ?_⟩
    rw [p1]
    have ez : zwr (zwr (own + sSum s (m : Int) c 2 (s 132).toNat) - sSum s (m : Int) c 1 (s 132).toNat) = hd := by
      rw [zwr_eq (a := own + sSum s (m : Int) c 2 (s 132).toNat) (by omega) (by omega), zwr_eq (by omega) (by omega)]
      omega
    rw [ez]
    refine ⟨fun e => absurd rfl e, fun _ => ?_⟩
    refine ⟨19, _, by decide, c_X6_part (R h2 ((f'.tr f1).tr f2)) hW, ?_⟩
    rintro _ h3 ⟨rfl, f3⟩
    refine ⟨_, rfl, ?_⟩
    rw [p3]
    refine ⟨fun _ => s245 h3 (((f'.tr f1).tr f2).tr f3), fun e => ⟨fun e2 => ?_, fun _ => s245 h3 (((f'.tr f1).tr f2).tr f3)⟩⟩
    have : 1 ≤ hd := hwq (by omega)
    omega
  have s178 : ∀ (h' : zH) (w : Int), zFt h0 h' → sPln s c m + w = sPln s c (m + 1) → (fun (d : Nat) => zV RL cL_isCellSo 15 (some .boolean) d Post Γ 178 [(0, zR 0), (1, zI c), (2, zI (hSum s c (m + 1))), (3, zI (sAg s c 3 (m + 1))), (4, zI (sAg s c 8 (m + 1))), (5, zI (sWh s c (m + 1))), (6, zI (sPln s c m)), (7, zI ((sPls s c m : Nat) : Int)), (8, zI v), (9, zI ((m : Nat) : Int)), (10, zI hd), (11, zI pl), (12, zI gt), (13, zI own)] [zI w, zI (sPln s c m)] h') 20 := by
    intro h' w f' e0
    refine k_L_isCellSo_178 (by decide) ?_
    intro x1 e1
    have b6' := sPln_bd (s := s) (c := c) (m + 1)
    rw [e0, zwr_eq (by omega) (by omega)] at e1
    rw [e1]
    refine ⟨fun e => ?_, fun e => ?_⟩
    · refine s196 h' 0 f' ?_
      rw [a7, if_neg (by omega)]
      exact zor_0 _ p7
    · refine s196 h' _ f' ?_
      rw [a7, if_pos (by omega)]
      have z := zor_bit _ p7 pl.toNat (by omega)
      rw [show ((pl.toNat : Nat) : Int) = pl by omega] at z
      exact z
  have s164 : ∀ (h' : zH) (w : Int), zFt h0 h' → w = sWh s c (m + 1) → (fun (d : Nat) => zV RL cL_isCellSo 15 (some .boolean) d Post Γ 164 [(0, zR 0), (1, zI c), (2, zI (hSum s c (m + 1))), (3, zI (sAg s c 3 (m + 1))), (4, zI (sAg s c 8 (m + 1))), (5, zI (sWh s c m)), (6, zI (sPln s c m)), (7, zI ((sPls s c m : Nat) : Int)), (8, zI v), (9, zI ((m : Nat) : Int)), (10, zI hd), (11, zI pl), (12, zI gt), (13, zI own)] [zI w] h') 20 := by
    intro h' w f' e0
    rw [e0]
    refine k_L_isCellSo_164 (by decide) ⟨fun e => ?_, fun e => ?_⟩
    · exact s178 h' 0 f' (by rw [a6, if_neg (by omega)])
    · exact s178 h' 1 f' (by rw [a6, if_pos (by omega)])
  have s135 : ∀ (h' : zH) (w : Int), zFt h0 h' → sAg s c 3 m + w = sAg s c 3 (m + 1) → (fun (d : Nat) => zV RL cL_isCellSo 15 (some .boolean) d Post Γ 135 [(0, zR 0), (1, zI c), (2, zI (hSum s c (m + 1))), (3, zI (sAg s c 3 m)), (4, zI (sAg s c 8 m)), (5, zI (sWh s c m)), (6, zI (sPln s c m)), (7, zI ((sPls s c m : Nat) : Int)), (8, zI v), (9, zI ((m : Nat) : Int)), (10, zI hd), (11, zI pl), (12, zI gt), (13, zI own)] [zI w, zI (sAg s c 3 m)] h') 20 := by
    intro h' w f' e0
    refine k_L_isCellSo_135 (by decide) ?_
    intro x1 e1
    have b3' := sAg_bd hW.h (w := 3) hc (m + 1) (by omega)
    have b8' := sAg_bd hW.h (w := 8) hc (m + 1) (by omega)
    rw [e0, zwr_eq (by omega) (by omega)] at e1
    rw [e1]
    refine ⟨19, _, by decide, c_X6_part (R h' f') hW, ?_⟩
    rintro _ h1 ⟨rfl, f1⟩
    refine ⟨_, rfl, ?_⟩
    rw [p3]
    intro x9 e9
    rw [← a8, zwr_eq (by omega) (by omega)] at e9
    rw [e9]
    refine ⟨fun e => ?_, fun e => ?_⟩
    · exact s164 h1 _ (f'.tr f1) (by rw [a5, if_neg e])
    · exact s164 h1 _ (f'.tr f1) (by rw [a5, if_pos e])
  have s117 : ∀ h' : zH, zFt h0 h' → (fun (d : Nat) => zV RL cL_isCellSo 15 (some .boolean) d Post Γ 117 [(0, zR 0), (1, zI c), (2, zI (hSum s c m)), (3, zI (sAg s c 3 m)), (4, zI (sAg s c 8 m)), (5, zI (sWh s c m)), (6, zI (sPln s c m)), (7, zI ((sPls s c m : Nat) : Int)), (8, zI v), (9, zI ((m : Nat) : Int)), (10, zI hd), (11, zI pl), (12, zI gt)] [zI own] h') 20 := by
    intro h' f'
    refine k_L_isCellSo_117 (by decide) ?_
    intro x1 e1
    have b2' := hSum_bd hW hc (m + 1) (by omega)
    rw [← a2, zwr_eq (by omega) (by omega)] at e1
    rw [e1]
    refine ⟨fun e => ?_, fun e => ?_⟩
    · exact s135 h' 0 f' (by rw [a3, if_neg (by omega)])
    · exact s135 h' 1 f' (by rw [a3, if_pos (by omega)])
  refine k_L_isCellSo_63 (by decide) ⟨fun e => absurd e (by omega), fun _ => ?_⟩
  refine ⟨19, _, by decide, c_X6_part (R h f) hW, ?_⟩
  rintro _ h1 ⟨rfl, f1⟩
  refine ⟨_, rfl, ?_⟩
  rw [p0]
  refine ⟨19, _, by decide, c_X6_part (R h1 (f.tr f1)) hW, ?_⟩
  rintro _ h2 ⟨rfl, f2⟩
  refine ⟨_, rfl, ?_⟩
  rw [p4]
  refine ⟨19, _, by decide, c_X6_part (R h2 ((f.tr f1).tr f2)) hW, ?_⟩
  rintro _ h3 ⟨rfl, f3⟩
  refine ⟨_, rfl, ?_⟩
  rw [p5]
  refine ⟨3, _, by decide, c_X6_cell (R h3 (((f.tr f1).tr f2).tr f3)) hW, ?_⟩
  rintro _ _ ⟨rfl, rfl⟩
  refine ⟨_, rfl, ?_⟩
  rw [c2]
  refine ⟨fun e => ?_, fun e => ?_⟩
  · have z := s117 _ (((f.tr f1).tr f2).tr f3)
    rw [eown, if_neg (fun z => e z.symm)] at z
    exact z
  · have z := s117 _ (((f.tr f1).tr f2).tr f3)
    rw [eown, if_pos e.symm] at z
    exact z
set_option maxHeartbeats 4000000 in
theorem cs_end {B : Int} {Post : Option zA → zH → Prop} {Γ : zCx} {h0 h : zH} {s : zs} {c v : Int} (r : Rep s h0 1) (hW : WF B s) (q : WQ s) (hc : 0 ≤ c ∧ c ≤ 5) (f : zFt h0 h) (hv : v = sCnt s c (s 132).toNat) (hp : ∀ h' : zH, zFt h0 h' → Post (some (zI 1)) h') : (fun (d : Nat) => zV RL cL_isCellSo 15 (some .boolean) d Post Γ 63 [(0, zR 0), (1, zI c), (2, zI (hSum s c 6)), (3, zI (sAg s c 3 6)), (4, zI (sAg s c 8 6)), (5, zI (sWh s c 6)), (6, zI (sPln s c 6)), (7, zI ((sPls s c 6 : Nat) : Int)), (8, zI v), (9, zI ((6 : Nat) : Int))] [] h) 20 := by
  have R : ∀ h' : zH, zFt h0 h' → Rep s h' 1 := fun h' g => Rep_congr r (fun k k0 k1 => g k (by omega) (by omega))
  have hn := (hW.c c hc).1
  have bo := (hW.v c hc).2.2
  have bc := sCnt_pos (s := s) (c := c) (s 132).toNat
  have w64 : hSum s c 6 = 64 := by rw [hSum_6]; exact hW.s c hc
  have c2 : qCell s c 2 = s (126 + c).toNat := if_pos hc
  have c3 : qCell s c 3 = sAg s c 3 6 := if_pos hc
  have c4 : qCell s c 4 = sPln s c 6 := by rw [sPln_6 hW.c hc]; exact if_pos hc
  have c6 : qCell s c 6 = v := by rw [hv]; exact if_pos hc
  have c7 : qCell s c 7 = sWh s c 6 := if_pos hc
  have c8 : qCell s c 8 = sAg s c 8 6 := if_pos hc
  have ch : qChain s c = ((cTot (fun i j => sLk s c i j (s 132).toNat) : Nat) : Int) := if_pos hc
  have ch5 := cTot_le (fun i j => sLk s c i j (s 132).toNat)
  have chp := cTot_pos (c := c) hW q
  have e7 : ((sPls s c 6 : Nat) : Int) = zwr (zshl 1 (sPln s c 6) - 1) := by
    rw [sPln_6 hW.c hc, sPls_6 hW.c hc]
    have z := zones (s (108 + c).toNat).toNat (by omega)
    rw [show (((s (108 + c).toNat).toNat : Nat) : Int) = s (108 + c).toNat by omega] at z
    exact z.symm
  have s489 : ∀ h' : zH, zFt h0 h' → (fun (d : Nat) => zV RL cL_isCellSo 15 (some .boolean) d Post Γ 489 [(0, zR 0), (1, zI c), (2, zI (hSum s c 6)), (3, zI (sAg s c 3 6)), (4, zI (sAg s c 8 6)), (5, zI (sWh s c 6)), (6, zI (sPln s c 6)), (7, zI ((sPls s c 6 : Nat) : Int)), (8, zI v), (9, zI 1)] [zI 1] h') 20 := by
    intro h' f'
    refine k_L_isCellSo_489 (by decide) ⟨fun e => absurd e (by decide), fun _ => ⟨fun _ => hp h' f', fun e => ?_⟩⟩
    refine ⟨3, _, by decide, c_X6_cell (R h' f') hW, ?_⟩
    rintro _ _ ⟨rfl, rfl⟩
    refine ⟨_, rfl, ?_⟩
    rw [c2]
    refine ⟨19, _, by decide, c_X6_part (R _ f') hW, ?_⟩
    rintro _ h1 ⟨rfl, f1⟩
    refine ⟨64, ?_, fun z => absurd rfl z, fun _ => hp h1 (f'.tr f1)⟩
    have p0 : qPart s (s (126 + c).toNat) c 0 = s (6 * c + s (126 + c).toNat).toNat := if_pos ⟨bo, hc⟩
    rw [p0, held_alone hW bo hc (by omega), if_pos rfl]
  have s481 : ∀ (h' : zH) (w : Int), zFt h0 h' → (fun (d : Nat) => zV RL cL_isCellSo 15 (some .boolean) d Post Γ 481 [(0, zR 0), (1, zI c), (2, zI (hSum s c 6)), (3, zI (sAg s c 3 6)), (4, zI (sAg s c 8 6)), (5, zI (sWh s c 6)), (6, zI (sPln s c 6)), (7, zI ((sPls s c 6 : Nat) : Int)), (8, zI v), (9, zI 1)] [zI w, zI w] h') 20 := fun h' w f' => k_L_isCellSo_481 (by decide) ⟨fun e => absurd rfl e, fun _ => s489 h' f'⟩
  have s468 : ∀ (h' : zH) (w : Int), zFt h0 h' → w = (if 0 < v then 1 else 0) → (fun (d : Nat) => zV RL cL_isCellSo 15 (some .boolean) d Post Γ 468 [(0, zR 0), (1, zI c), (2, zI (hSum s c 6)), (3, zI (sAg s c 3 6)), (4, zI (sAg s c 8 6)), (5, zI (sWh s c 6)), (6, zI (sPln s c 6)), (7, zI ((sPls s c 6 : Nat) : Int)), (8, zI v), (9, zI 1)] [zI w] h') 20 := by
    intro h' w f' e0
    refine k_L_isCellSo_468 (by decide) ?_
    refine ⟨8, _, by decide, c_X6_chain (R h' f') hW, ?_⟩
    rintro _ _ ⟨rfl, rfl⟩
    refine ⟨_, rfl, fun e => ?_, fun e => ?_⟩
    · rw [ch] at e
      rw [e0, if_neg (fun z => by rw [hv] at z; have := chp.mp z; omega)]
      exact s481 _ 0 f'
    · rw [ch] at e
      rw [e0, if_pos (by rw [hv]; exact chp.mpr (by omega))]
      exact s481 _ 1 f'
  refine k_L_isCellSo_63 (by decide) ⟨fun _ => ⟨fun e => absurd w64 e, fun _ => ?_⟩, fun e => absurd (by decide) e⟩
  refine ⟨3, _, by decide, c_X6_cell (R h f) hW, ?_⟩
  rintro _ _ ⟨rfl, rfl⟩
  refine ⟨_, by rw [c3], fun e => absurd rfl e, fun _ => ?_⟩
  refine ⟨3, _, by decide, c_X6_cell (R _ f) hW, ?_⟩
  rintro _ _ ⟨rfl, rfl⟩
  refine ⟨_, by rw [c8], fun e => absurd rfl e, fun _ => ?_⟩
  refine ⟨3, _, by decide, c_X6_cell (R _ f) hW, ?_⟩
  rintro _ _ ⟨rfl, rfl⟩
  refine ⟨_, by rw [c7], fun e => absurd rfl e, fun _ => ?_⟩
  refine ⟨3, _, by decide, c_X6_cell (R _ f) hW, ?_⟩
  rintro _ _ ⟨rfl, rfl⟩
  refine ⟨_, by rw [c4], fun e => absurd rfl e, fun _ => ?_⟩
  refine ⟨fun e => absurd e7 e, fun _ => ?_⟩
  refine ⟨3, _, by decide, c_X6_cell (R _ f) hW, ?_⟩
  rintro _ _ ⟨rfl, rfl⟩
  refine ⟨_, by rw [c6], fun e => absurd rfl e, fun _ => ?_⟩
  refine k_L_isCellSo_442 (by decide) ⟨fun e => absurd e (by decide), fun _ => ?_⟩
  refine ⟨8, _, by decide, c_X6_chain (R _ f) hW, ?_⟩
  rintro _ _ ⟨rfl, rfl⟩
  refine ⟨_, rfl, fun e => ?_, fun _ => ⟨fun e => ?_, fun e => ?_⟩⟩
  · rw [ch] at e
    omega
  · exact s468 _ 0 f (by rw [if_neg (by omega)])
  · exact s468 _ 1 f (by rw [if_pos (by omega)])
set_option maxHeartbeats 4000000 in
theorem cs_loop {B : Int} {Post : Option zA → zH → Prop} {Γ : zCx} {h0 : zH} {s : zs} {c v : Int} (r : Rep s h0 1) (hW : WF B s) (q : WQ s) (hc : 0 ≤ c ∧ c ≤ 5) (hv : v = sCnt s c (s 132).toNat) (hp : ∀ h' : zH, zFt h0 h' → Post (some (zI 1)) h') : ∀ n m : Nat, n + m = 6 → ∀ h : zH, zFt h0 h → (fun (d : Nat) => zV RL cL_isCellSo 15 (some .boolean) d Post Γ 63 [(0, zR 0), (1, zI c), (2, zI (hSum s c m)), (3, zI (sAg s c 3 m)), (4, zI (sAg s c 8 m)), (5, zI (sWh s c m)), (6, zI (sPln s c m)), (7, zI ((sPls s c m : Nat) : Int)), (8, zI v), (9, zI ((m : Nat) : Int))] [] h) 20 := by
  intro n
  induction n with
  | zero =>
    intro m hm h f
    obtain rfl : m = 6 := by omega
    exact cs_end r hW q hc f hv hp
  | succ n ih =>
    intro m hm h f
    exact cs_iter r hW q hc (by omega) f (fun h' f' => ih (m + 1) (by omega) h' f')
theorem cs_loans {B : Int} {Post : Option zA → zH → Prop} {Γ : zCx} {h : zH} {s : zs} {c : Int} (r : Rep s h 1) (hW : WF B s) (q : WQ s) (hc : 0 ≤ c ∧ c ≤ 5) (hp : ∀ h' : zH, zFt h h' → Post (some (zI 1)) h') : ∀ n m : Nat, n + m = (s 133).toNat → (fun (d : Nat) => zV RL cL_isCellSo 15 (some .boolean) d Post Γ 23 [(0, zR 0), (1, zI c), (2, zI 0), (3, zI 0), (4, zI 0), (5, zI (-5)), (6, zI 0), (7, zI 0), (8, zI (nLn s c m)), (9, zI (m : Int))] [] h) 20 := by
  have n133 := hW.n
  unfold WFn at n133
  intro n
  induction n with
  | zero =>
    intro m hm
    have b := nLn_bd (s := s) (c := c) m
    refine k_L_isCellSo_23 (by decide) ?_
    refine ⟨4, _, by decide, c_X6_count r hW, ?_⟩
    rintro _ _ ⟨rfl, rfl⟩
    refine ⟨s 133, rfl, fun e => ?_, fun e => absurd (by omega) e⟩
    exact cs_loop r hW q hc (by rw [show m = (s 133).toNat by omega]; exact nLn_all hW hc.1) hp 6 0 (by omega) h zFt.rfl'
  | succ n ih =>
    intro m hm
    have b := nLn_bd (s := s) (c := c) m
    refine k_L_isCellSo_23 (by decide) ?_
    refine ⟨4, _, by decide, c_X6_count r hW, ?_⟩
    rintro _ _ ⟨rfl, rfl⟩
    refine ⟨s 133, rfl, fun e => absurd e (by omega), fun e => ?_⟩
    refine ⟨3, _, by decide, c_X6_loan r hW, ?_⟩
    rintro _ _ ⟨rfl, rfl⟩
    refine ⟨_, rfl, fun e => ?_, fun e => ?_⟩
    · intro x15 e15 x16 e16
      have key := ih (m + 1) (by omega)
      unfold nLn at key
      rw [if_neg e] at key
      rw [zstep e16 (by omega), e15, zwr_eq (by omega) (by omega)]
      exact key
    · intro x15 e15 x16 e16
      have key := ih (m + 1) (by omega)
      unfold nLn at key
      rw [if_pos e] at key
      rw [zstep e16 (by omega), e15, zwr_eq (by omega) (by omega)]
      exact key
theorem c_L_isCellSo {B : Int} {h : zH} {s : zs} {c : Int} (r : Rep s h 1) (hW : WF B s) (q : WQ s) (hc : 0 ≤ c ∧ c ≤ 5) : zSp 20 mL_isCellSo [zR 0, zI c] h (fun r h' => r = some (zI 1) ∧ zFt h h') := by
  refine zSp_of (by decide +kernel) (Nat.le_of_ble_eq_true rfl) rfl (fun Γ => k_L_isCellSo_0  (by decide) ?_)
  exact cs_loans r hW q hc (fun h' f => ⟨rfl, f⟩) (s 133).toNat 0 (by omega)
