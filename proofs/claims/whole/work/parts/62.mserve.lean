/-! the reference: serve, undo, keep, restore -/
theorem c_X7_serves_99 {B : Int} {Post : Option zA → zH → Prop} {Γ : zCx} {h : zH} {c o f g w : Int} (hW : WF B (h 129)) (hc : 0 ≤ c ∧ c ≤ 5) (ho : 0 ≤ o ∧ o ≤ 5) (hf : 0 ≤ f ∧ f ≤ 5) (h8 : 1 ≤ h 129 (108 + c).toNat) (hl : f ≠ o → h 129 132 < 40) (p1 : f = o → ∀ h' : zH, h' 129 = sDrop (h 129) c 0 → mF h h' → h' 130 = h 130 → Post (some (zI f)) h') (p2 : ¬ f = o → ∀ h' : zH, h' 129 = sDrop (sLend (h 129) o f c 64) c 0 → mF h h' → h' 130 = h 130 → Post (some (zI f)) h') : (fun (d : Nat) => zV RX7 cX7_serves 7 (some .int) d Post Γ 99 [(0, zR 128), (1, zI c), (2, zI o), (3, zI f), (4, zI g), (5, zI w)] [] h) 4 := by
  have b := (hW.c c hc).1
  have n := hW.n
  unfold WFn at n
  refine k_X7_serves_99 (by decide) ?_
  refine ⟨1, _, by decide, c_X7_dropClaim hc (by omega) b.2, ?_⟩
  rintro _ _ ⟨rfl, rfl⟩
  refine ⟨rfl, fun e => ?_, fun e => ?_⟩
  · exact p1 e _ (zrow_get _ _ _) (mF_row (Or.inl rfl)) (zrow_ne _ _ (by decide))
  · have e132 : sDrop (h 129) c 0 132 = h 129 132 := sDrop_off hc (by omega) (by omega) (by omega) (by omega)
    have hl2 := hl e
    refine ⟨2, _, by decide, c_X7_lends ho hf hc (by rw [zrow_get, e132]; omega), ?_⟩
    rintro _ _ ⟨rfl, rfl⟩
    refine ⟨_, rfl, p2 e _ ?_ ((mF_row (Or.inl rfl)).trans (mF_row (Or.inl rfl))) (by rw [zrow_ne _ _ (by decide), zrow_ne _ _ (by decide)])⟩
    rw [zrow_get, zrow_get]
    exact (sDrop_lend (by omega) ho hf hc (by omega)).symm
theorem c_X7_serves {B : Int} {h : zH} {c : Int} (hW : WF B (h 129)) (hc : 0 ≤ c ∧ c ≤ 5) (h8 : ¬ h 129 (108 + c).toNat = 0) : zSp 4 mX7_serves [zR 128, zI c] h (fun q h' => q = some (zI (opServe (h 129) c).1) ∧ (0 ≤ (opServe (h 129) c).1 → h' 129 = (opServe (h 129) c).2) ∧ WFz (h' 129) ∧ mF h h' ∧ h' 130 = h 130) := by
  refine zSp_of (by decide +kernel) (Nat.le_of_ble_eq_true rfl) rfl (fun Γ => k_X7_serves_0  (by decide) ?_)
  have ho := (hW.v c hc).2.2
  have hb := (hW.c c hc).1
  have hf := (hW.c c hc).2.1 0 (by omega) (by omega)
  have wo := WF_opServe (c := c) hW
  have go : ∃ o : Int, o = h 129 (126 + c).toNat := ⟨_, rfl⟩
  obtain ⟨o, eo⟩ := go
  have gf : ∃ f : Int, f = h 129 (72 + 6 * c + 0).toNat := ⟨_, rfl⟩
  obtain ⟨f, ef⟩ := gf
  obtain ⟨g1, g2⟩ := gat_ok (B := B) (c := c) 6 0 (h 129) o hW (Nat.zero_testBit _)
  have gs : ∃ s1 : zs, s1 = gat c 6 0 (h 129) o := ⟨_, rfl⟩
  obtain ⟨s1, e1⟩ := gs
  rw [← e1] at g1 g2
  have e8 : s1 (108 + c).toNat = h 129 (108 + c).toNat := g2.2.2.2.1 _ (by omega) (by omega)
  have ef1 : s1 (72 + 6 * c + 0).toNat = f := by rw [ef]; exact g2.2.2.2.1 _ (by omega) (by omega)
  rw [← eo] at ho
  rw [← ef] at hf
  have op : opServe (h 129) c = if ¬ (s1 (6 * c + o).toNat = 64 ∧ s1 (36 + 6 * c + o).toNat = 0) then (if s1 135 = h 129 135 then (-5, h 129) else (9, s1)) else if f = o then (f, sDrop s1 c 0) else if s1 132 = 40 ∨ s1 133 = 1000 then (-3, h 129) else (f, sDrop (sLend s1 o f c 64) c 0) := by
    unfold opServe
    simp only [if_neg (fun q : ¬ (0 ≤ c ∧ c ≤ 5) => q hc), if_neg h8]
    rw [← eo, ← e1, ef1]
  have wz : ∀ x : Int × zs, x = opServe (h 129) c → WFz x.2 := fun x e => by rw [e]; exact wo.z
  rw [op] at wz ⊢
  have n1 := g1.n
  unfold WFn at n1
  rw [zwr_eq (a := 126 + c) (by omega) (by omega), zwr_eq (a := 6 * c) (by omega) (by omega), zwr_eq (a := 72 + 6 * c) (by omega) (by omega)]
  refine ⟨by omega, by omega, ?_⟩
  intro x3 ex3
  rw [← eo] at ex3
  refine ⟨by omega, by omega, ?_⟩
  intro x6 ex6
  rw [show 72 + 6 * c = 72 + 6 * c + 0 by omega, ← ef] at ex6
  rw [ex3, ex6]
  refine ⟨3, _, by decide, c_X7_gathers (B := B) hW ho hc, ?_⟩
  rintro _ h2 ⟨rfl, e2, -, f2⟩
  rw [← e1] at e2
  rw [← e1]
  have f130 : h2 130 = h 130 := f2.2.1 130 (by decide) (by decide) (by decide) (by decide) (by decide)
  have le := g2.2.1
  have no : ¬ (s1 (6 * c + o).toNat = 64 ∧ s1 (36 + 6 * c + o).toNat = 0) → (fun (d : Nat) => ∀ Post : Option zA → zH → Prop, (s1 135 = h 129 135 → Post (some (zI (-5))) h2) → (¬ s1 135 = h 129 135 → Post (some (zI 9)) h2) → zV RX7 cX7_serves 7 (some .int) d Post Γ 64 [(0, zR 128), (1, zI c), (2, zI o), (3, zI f), (4, zI (s1 135 - h 129 135))] [zI 0] h2) 4 := by
    intro _ Post p1 p2
    refine k_X7_serves_64 (by decide) ⟨fun q => absurd rfl q, fun _ => ⟨fun q => p1 (by omega), fun q => p2 (by omega)⟩⟩
  have noP : ∀ (cc : ¬ (s1 (6 * c + o).toNat = 64 ∧ s1 (36 + 6 * c + o).toNat = 0)) (op2 : Int × zs), op2 = (if s1 135 = h 129 135 then (-5, h 129) else (9, s1)) → (fun (d : Nat) => ∀ Post : Option zA → zH → Prop, Post = (fun q h' => q = some (zI op2.1) ∧ (0 ≤ op2.1 → h' 129 = op2.2) ∧ WFz (h' 129) ∧ mF h h' ∧ h' 130 = h 130) → zV RX7 cX7_serves 7 (some .int) d Post Γ 64 [(0, zR 128), (1, zI c), (2, zI o), (3, zI f), (4, zI (s1 135 - h 129 135))] [zI 0] h2) 4 := by
    intro cc op2 eop Post eP
    rw [eP]
    refine no cc _ (fun q => ?_) (fun q => ?_)
    · rw [eop, if_pos q]
      exact ⟨rfl, fun z => absurd (show (0 : Int) ≤ -5 from z) (by decide), by rw [e2]; exact g1.z, f2.m, f130⟩
    · rw [eop, if_neg q]
      exact ⟨rfl, fun _ => e2, by rw [e2]; exact g1.z, f2.m, f130⟩
  refine ⟨_, rfl, ho, hc, by omega, by omega, ?_⟩
  rw [e2]
  refine ⟨fun c1 => k_X7_serves_63 (by decide) (noP (fun q => c1 q.1) _ (by rw [if_pos (fun q => c1 q.1)]) _ rfl), fun c1 => ⟨ho, hc, by omega, by omega, fun c2 => k_X7_serves_63 (by decide) (noP (fun q => c2 q.2) _ (by rw [if_pos (fun q => c2 q.2)]) _ rfl), fun c2 => ?_⟩⟩
  rw [if_neg (fun q => q ⟨c1, c2⟩)] at wz ⊢
  refine k_X7_serves_64 (by decide) ⟨fun _ => ⟨fun c3 => ?_, fun c3 => ?_⟩, fun q => absurd q (by decide)⟩
  · rw [if_pos c3] at wz ⊢
    refine c_X7_serves_99 (B := B) (by rw [e2]; exact g1) hc ho hf (by rw [e2]; omega) (fun q => absurd c3 q) (fun _ h' z1 z2 z3 => ?_) (fun q => absurd c3 q)
    rw [e2] at z1
    exact ⟨rfl, fun _ => z1, by rw [z1]; exact (WF_drop g1 hc (by omega)).z, f2.m.trans z2, by rw [z3, f130]⟩
  · rw [if_neg c3] at wz ⊢
    refine ⟨1, _, by decide, c_X7_isFull, ?_⟩
    rintro _ _ ⟨rfl, rfl⟩
    rw [e2]
    by_cases c4 : s1 132 = 40 ∨ s1 133 = 1000
    · rw [if_pos c4, if_pos c4]
      exact ⟨_, rfl, fun q => absurd q (by decide), fun _ => ⟨rfl, fun z => absurd (show (0 : Int) ≤ -3 from z) (by decide), g1.z, f2.m, f130⟩⟩
    · rw [if_neg c4] at wz
      rw [if_neg c4, if_neg c4]
      refine ⟨_, rfl, fun _ => ?_, fun q => absurd rfl q⟩
      refine c_X7_serves_99 (B := B) (by rw [e2]; exact g1) hc ho hf (by rw [e2]; omega) (fun _ => by rw [e2]; omega) (fun q => absurd q c3) (fun _ h' z1 z2 z3 => ?_)
      rw [e2] at z1
      refine ⟨rfl, fun _ => z1, ?_, f2.m.trans z2, by rw [z3, f130]⟩
      rw [z1]
      refine wz (f, sDrop (sLend s1 o f c 64) c 0) ?_
      rfl
theorem c_X7_serve {B : Int} {h : zH} {a1 : Int} {n : Nat} (hW : WF B (h 129)) (hn : h 128 4 = (n : Int)) (n4 : n ≤ 4) : zSp 5 mX7_serve [zR 128, zI a1] h (fun q h' => q = some (zI (opServe (h 129) a1).1) ∧ mAct n (opServe (h 129) a1) h h') := by
  refine zSp_of (by decide +kernel) (Nat.le_of_ble_eq_true rfl) rfl (fun Γ => k_X7_serve_0  (by decide) ?_)
  refine ⟨fun c1 => ?_, fun c1 => ?_⟩
  · rw [zwr_eq (a := 108 + a1) (by omega) (by omega)]
    refine ⟨by omega, by omega, fun c2 => ?_, fun c2 => ?_⟩
    · refine ⟨1, _, by decide, c_X7_putAside, ?_⟩
      rintro _ h1 ⟨rfl, e1⟩
      have e129 : h1 129 = h 129 := by rw [e1, zrow_ne _ _ (by decide)]
      have f1 : mF h h1 := by rw [e1]; exact mF_row (by omega)
      refine ⟨rfl, 4, _, by decide, c_X7_serves (B := B) (by rw [e129]; exact hW) c1 (by rw [e129]; exact c2), ?_⟩
      rintro _ h2 ⟨rfl, -, z2, f2, e130⟩
      rw [e129]
      refine ⟨_, rfl, 1, _, by decide, c_X7_putBack, ?_⟩
      rintro _ h3 ⟨rfl, e3⟩
      have b3 : h3 129 = h 129 := by
        rw [e3]
        exact trial_back (by rw [e130, e1, zrow_get]) hW.z z2
      have f3 : mF h h3 := f1.trans (f2.trans (by rw [e3]; exact mF_row (by omega)))
      refine ⟨rfl, fun c3 => ?_, fun c3 => ?_⟩
      · obtain ⟨k1, k2⟩ := mPush_kn (h := h3) (by rw [b3]; exact hW.z) (mF4 f3 hn) n4
        refine ⟨1, _, by decide, c_X7_know (by rw [mF4 f3 hn]; omega), ?_⟩
        rintro _ _ ⟨rfl, rfl⟩
        rw [b3] at k2
        refine ⟨rfl, 4, _, by decide, c_X7_serves (B := B) (by rw [k2]; exact hW) c1 (by rw [k2]; exact c2), ?_⟩
        rintro _ h4 ⟨rfl, z1, -, f4, -⟩
        rw [k2] at z1
        rw [k2]
        exact ⟨_, rfl, rfl, mAct_ok c3 (z1 c3) (mPush_m (mPush_pre f3 b3 k1) f4)⟩
      · exact ⟨rfl, mAct_err (by omega) b3 f3⟩
    · have e : opServe (h 129) a1 = (-4, h 129) := by
        unfold opServe
        simp only [if_neg (fun q : ¬ (0 ≤ a1 ∧ a1 ≤ 5) => q c1), if_pos c2]
      rw [e]
      exact ⟨rfl, mAct_same (by decide)⟩
  · have e : opServe (h 129) a1 = (-1, h 129) := by
      unfold opServe
      simp only [if_pos c1]
    rw [e]
    exact ⟨rfl, mAct_same (by decide)⟩
