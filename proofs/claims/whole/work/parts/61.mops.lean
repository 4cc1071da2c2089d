/-! the reference's acts: gather, hold, write, claim, serve, handOver -/
theorem trial_back {h h2 : zH} (e : h2 130 = sCp (h 129) (h 130)) (z1 : WFz (h 129)) (z2 : WFz (h2 129)) : (zrow h2 129 (sCp (h2 130) (h2 129))) 129 = h 129 := by
  rw [zrow_get, e]
  exact sCp_2 z1 z2
theorem mPush_pre {n : Nat} {h h1 h2 : zH} (f : mF h h1) (e : h1 129 = h 129) (p : mPush n h1 h2) : mPush n h h2 := by
  refine ⟨p.1, fun i hi => ?_, f.g.trans p.2.2⟩
  rw [p.2.1 i hi, e, show mH h1 = mH h from funext (fun i => mH_congr (f.1 132 (by decide)) i)]
theorem mF4 {h h1 : zH} {n : Nat} (f : mF h h1) (hn : h 128 4 = (n : Int)) : h1 128 4 = (n : Int) := by rw [f.2 4 (by decide) (by decide) (by decide) (by decide)]; exact hn
theorem c_X7_gather {B : Int} {h : zH} {a1 a2 : Int} {n : Nat} (hW : WF B (h 129)) (hn : h 128 4 = (n : Int)) (n4 : n ≤ 4) : zSp 4 mX7_gather [zR 128, zI a1, zI a2] h (fun q h' => q = some (zI (opGather (h 129) a1 a2).1) ∧ mAct n (opGather (h 129) a1 a2) h h') := by
  refine zSp_of (by decide +kernel) (Nat.le_of_ble_eq_true rfl) rfl (fun Γ => k_X7_gather_0  (by decide) ?_)
  unfold opGather
  refine ⟨fun c => ?_, fun c => ?_⟩
  · rw [if_neg (fun q => q c.1), if_neg (fun q => q c.2)]
    refine ⟨1, _, by decide, c_X7_putAside, ?_⟩
    rintro _ h1 ⟨rfl, e1⟩
    have e129 : h1 129 = h 129 := by rw [e1, zrow_ne _ _ (by decide)]
    have f1 : mF h h1 := by rw [e1]; exact mF_row (by omega)
    obtain ⟨g1, g2⟩ := gat_ok (B := B) (c := a2) 6 0 (h 129) a1 hW (Nat.zero_testBit _)
    refine ⟨rfl, 3, _, by decide, c_X7_gathers (B := B) (by rw [e129]; exact hW) c.1 c.2, ?_⟩
    rintro _ h2 ⟨rfl, e2, -, f2⟩
    rw [e129] at e2
    refine ⟨_, rfl, 1, _, by decide, c_X7_putBack, ?_⟩
    rintro _ h3 ⟨rfl, e3⟩
    have b3 : h3 129 = h 129 := by
      rw [e3]
      exact trial_back (by rw [f2.2.1 130 (by decide) (by decide) (by decide) (by decide) (by decide), e1, zrow_get]) hW.z (by rw [e2]; exact g1.z)
    have f3 : mF h h3 := f1.trans (f2.m.trans (by rw [e3]; exact mF_row (by omega)))
    rw [e129]
    refine ⟨rfl, fun c2 => ?_, fun c2 => ?_⟩
    · rw [if_neg (by omega)]
      obtain ⟨k1, k2⟩ := mPush_kn (h := h3) (by rw [b3]; exact hW.z) (mF4 f3 hn) n4
      refine ⟨1, _, by decide, c_X7_know (by rw [mF4 f3 hn]; omega), ?_⟩
      rintro _ _ ⟨rfl, rfl⟩
      rw [b3] at k2
      refine ⟨rfl, 3, _, by decide, c_X7_gathers (B := B) (by rw [k2]; exact hW) c.1 c.2, ?_⟩
      rintro _ h4 ⟨rfl, e4, -, f4⟩
      rw [k2] at e4
      refine ⟨_, rfl, c.1, c.2, by omega, by omega, ?_⟩
      rw [e4]
      exact ⟨rfl, mAct_ok ((g1.h a1 a2 c.1 c.2).1) e4 (mPush_m (mPush_pre f3 b3 k1) f4.m)⟩
    · rw [if_pos (by omega)]
      exact ⟨rfl, mAct_err (show (-5 : Int) < 0 by decide) b3 f3⟩
  · by_cases c1 : 0 ≤ a1 ∧ a1 ≤ 5
    · rw [if_neg (fun q => q c1), if_pos (fun q => c ⟨c1, q⟩)]; exact ⟨rfl, mAct_same (by decide)⟩
    · rw [if_pos c1]; exact ⟨rfl, mAct_same (by decide)⟩
theorem c_X7_hold_49 {B : Int} {Post : Option zA → zH → Prop} {Γ : zCx} {h : zH} {a c v w : Int} {n : Nat} (hW : WF B (h 129)) (hn : h 128 4 = (n : Int)) (n4 : n ≤ 4) (ha : 0 ≤ a ∧ a ≤ 5) (hc : 0 ≤ c ∧ c ≤ 5) (hv : v = 0 ∨ v = 1) (p1 : w = v → Post (some (zI (-5))) h) (p2 : ¬ w = v → ∀ h' : zH, h' 129 = sHold (h 129) a c v → mPush n h h' → Post (some (zI (h 129 (114 + c).toNat))) h') : (fun (d : Nat) => zV RX7 cX7_hold 4 (some .int) d Post Γ 49 [(0, zR 128), (1, zI a), (2, zI c), (3, zI v)] [zI w] h) 4 := by
  obtain ⟨k1, k2⟩ := mPush_kn hW.z hn n4
  refine k_X7_hold_49 (by decide) ⟨fun c1 => ?_, fun c1 => p1 c1⟩
  refine ⟨1, _, by decide, c_X7_know (by omega), ?_⟩
  rintro _ _ ⟨rfl, rfl⟩
  rw [zwr_eq (a := 114 + c) (by omega) (by omega)]
  refine ⟨rfl, ha, hc, fun c2 => ⟨by omega, by omega, ?_⟩, fun c2 => ⟨by omega, by omega, ?_⟩⟩
  · rintro _ rfl
    refine ⟨by omega, by omega, ?_⟩
    rw [zu_nej _ _ _ (by omega), k2]
    refine p2 c1 _ ?_ (mPush_m k1 (mF_zu (Or.inl rfl)))
    rw [zu_row, zrow_get, k2, c2]; rfl
  · rintro _ rfl
    refine ⟨by omega, by omega, ?_⟩
    rw [zu_nej _ _ _ (by omega), k2]
    refine p2 c1 _ ?_ (mPush_m k1 (mF_zu (Or.inl rfl)))
    rw [zu_row, zrow_get, k2, show v = 1 by omega]; rfl
theorem c_X7_hold {B : Int} {h : zH} {a1 a2 a3 : Int} {n : Nat} (hW : WF B (h 129)) (hn : h 128 4 = (n : Int)) (n4 : n ≤ 4) (hv : a3 = 0 ∨ a3 = 1) : zSp 4 mX7_hold [zR 128, zI a1, zI a2, zI a3] h (fun q h' => q = some (zI (opHold (h 129) a1 a2 a3).1) ∧ mAct n (opHold (h 129) a1 a2 a3) h h') := by
  refine zSp_of (by decide +kernel) (Nat.le_of_ble_eq_true rfl) rfl (fun Γ => k_X7_hold_0  (by decide) ?_)
  unfold opHold
  refine ⟨fun c => ?_, fun c => ?_⟩
  · rw [if_neg (fun q => q c)]
    have b := (hW.h a1 a2 c.1 c.2).2
    have go : ¬ (a3 = 1 ∧ h 129 (6 * a2 + a1).toNat = 0) → (fun (d : Nat) => ∀ Post : Option zA → zH → Prop, (h 129 (36 + 6 * a2 + a1).toNat = a3 → Post (some (zI (-5))) h) → (¬ h 129 (36 + 6 * a2 + a1).toNat = a3 → ∀ h' : zH, h' 129 = sHold (h 129) a1 a2 a3 → mPush n h h' → Post (some (zI (h 129 (114 + a2).toNat))) h') → zV RX7 cX7_hold 4 (some .int) d Post Γ 30 [(0, zR 128), (1, zI a1), (2, zI a2), (3, zI a3)] [] h) 4 := by
      intro _ Post p1 p2
      refine k_X7_hold_30 (by decide) ⟨c.1, c.2, by omega, by omega, fun c2 => ?_, fun c2 => ?_⟩
      · exact c_X7_hold_49 hW hn n4 c.1 c.2 hv (fun q => p1 (by omega)) (fun q => p2 (by omega))
      · exact c_X7_hold_49 hW hn n4 c.1 c.2 hv (fun q => p1 (by omega)) (fun q => p2 (by omega))
    have fin : ∀ (c1 : ¬ (a3 = 1 ∧ h 129 (6 * a2 + a1).toNat = 0)), (fun (d : Nat) => ∀ Post : Option zA → zH → Prop, Post = (fun q h' => q = some (zI (if a3 = 1 ∧ h 129 (6 * a2 + a1).toNat = 0 then (-4, h 129) else if h 129 (36 + 6 * a2 + a1).toNat = a3 then (-5, h 129) else (h 129 (114 + a2).toNat, sHold (h 129) a1 a2 a3)).1) ∧ mAct n (if a3 = 1 ∧ h 129 (6 * a2 + a1).toNat = 0 then (-4, h 129) else if h 129 (36 + 6 * a2 + a1).toNat = a3 then (-5, h 129) else (h 129 (114 + a2).toNat, sHold (h 129) a1 a2 a3)) h h') → zV RX7 cX7_hold 4 (some .int) d Post Γ 30 [(0, zR 128), (1, zI a1), (2, zI a2), (3, zI a3)] [] h) 4 := by
      intro c1 Post eP
      rw [eP]
      rw [if_neg c1]
      refine go c1 _ (fun q => ?_) (fun q h' e f => ?_)
      · rw [if_pos q]; exact ⟨rfl, mAct_same (by decide)⟩
      · rw [if_neg q]; exact ⟨rfl, mAct_ok (hW.v a2 c.2).1.1 e f⟩
    refine ⟨fun c2 => fin (fun q => by omega) _ rfl, fun c2 => ⟨c.1, c.2, by omega, by omega, fun c3 => fin (fun q => c3 q.2) _ rfl, fun c3 => ?_⟩⟩
    rw [if_pos ⟨by omega, c3⟩]; exact ⟨rfl, mAct_same (by decide)⟩
  · rw [if_pos c]; exact ⟨rfl, mAct_same (by decide)⟩
theorem c_X7_write {B : Int} {h : zH} {a1 a2 a3 : Int} {n : Nat} (hW : WF B (h 129)) (hB : B ≤ 100000) (hn : h 128 4 = (n : Int)) (n4 : n ≤ 4) : zSp 5 mX7_write [zR 128, zI a1, zI a2, zI a3] h (fun q h' => q = some (zI (opWrite (h 129) a1 a2 a3).1) ∧ mAct n (opWrite (h 129) a1 a2 a3) h h') := by
  refine zSp_of (by decide +kernel) (Nat.le_of_ble_eq_true rfl) rfl (fun Γ => k_X7_write_0  (by decide) ?_)
  unfold opWrite
  refine ⟨4, _, by decide, c_X7_writeFault, ?_⟩
  rintro _ _ ⟨rfl, rfl⟩
  by_cases c1 : (0 ≤ a1 ∧ a1 ≤ 5) ∧ 0 ≤ a2 ∧ a2 ≤ 5
  · simp only [if_neg (fun q : ¬ ((0 ≤ a1 ∧ a1 ≤ 5) ∧ 0 ≤ a2 ∧ a2 ≤ 5) => q c1)]
    by_cases c2 : 0 ≤ a3 ∧ a3 ≤ 999
    · simp only [if_neg (fun q : ¬ (0 ≤ a3 ∧ a3 ≤ 999) => q c2)]
      by_cases c3 : h 129 (6 * a2 + a1).toNat < 64
      · simp only [if_pos c3]
        exact ⟨_, rfl, fun q => absurd q (by decide), fun _ => ⟨rfl, mAct_same (by decide)⟩⟩
      · simp only [if_neg c3]
        obtain ⟨k1, k2⟩ := mPush_kn hW.z hn n4
        refine ⟨_, rfl, fun _ => ?_, fun q => absurd (Int.le_refl 0) q⟩
        refine ⟨1, _, by decide, c_X7_know (by omega), ?_⟩
        rintro _ _ ⟨rfl, rfl⟩
        refine ⟨rfl, 1, _, by decide, c_X7_writes c1.2, ?_⟩
        rintro _ _ ⟨rfl, rfl⟩
        rw [k2]
        exact ⟨_, rfl, rfl, mAct_ok ((WF_write hW hB c1.2 c2).v a2 c1.2).2.1.1 (zrow_get _ _ _) (mPush_m k1 (mF_row (Or.inl rfl)))⟩
    · simp only [if_pos c2]
      exact ⟨_, rfl, fun q => absurd q (by decide), fun _ => ⟨rfl, mAct_same (by decide)⟩⟩
  · simp only [if_pos c1]
    exact ⟨_, rfl, fun q => absurd q (by decide), fun _ => ⟨rfl, mAct_same (by decide)⟩⟩
theorem c_X7_claim_30 {B : Int} {Post : Option zA → zH → Prop} {Γ : zCx} {h : zH} {a c v w : Int} {n : Nat} (hW : WF B (h 129)) (hn : h 128 4 = (n : Int)) (n4 : n ≤ 4) (ha : 0 ≤ a ∧ a ≤ 5) (hc : 0 ≤ c ∧ c ≤ 5) (hv : v = 0 ∨ v = 1) (hw : w = if sPlC (h 129) a c = -5 then 0 else 1) (p1 : v = w → Post (some (zI (-5))) h) (p2 : ¬ v = w → v = 0 → ∀ h' : zH, h' 129 = sDrop (h 129) c (sPlC (h 129) a c) → mPush n h h' → Post (some (zI (h 129 (108 + c).toNat - 1))) h') (p3 : ¬ v = w → ¬ v = 0 → ∀ h' : zH, h' 129 = sClaim (h 129) a c → mPush n h h' → Post (some (zI (h 129 (108 + c).toNat + 1))) h') : (fun (d : Nat) => zV RX7 cX7_claim 5 (some .int) d Post Γ 30 [(0, zR 128), (1, zI a), (2, zI c), (3, zI v), (4, zI (sPlC (h 129) a c))] [zI w] h) 4 := by
  obtain ⟨k1, k2⟩ := mPush_kn hW.z hn n4
  have b := (hW.c c hc).1
  refine k_X7_claim_30 (by decide) ⟨fun c1 => ?_, fun c1 => p1 c1.symm⟩
  refine ⟨1, _, by decide, c_X7_know (by omega), ?_⟩
  rintro _ _ ⟨rfl, rfl⟩
  rw [zwr_eq (a := 108 + c) (by omega) (by omega)]
  refine ⟨rfl, fun c2 => ?_, fun c2 => ⟨by omega, by omega, ?_⟩⟩
  · have hp : ¬ sPlC (h 129) a c = -5 := by
      intro q; rw [if_pos q] at hw; omega
    have i := sPlC_in hp
    refine ⟨1, _, by decide, c_X7_dropClaim hc (by rw [k2]; exact i) (by rw [k2]; omega), ?_⟩
    rintro _ _ ⟨rfl, rfl⟩
    refine ⟨rfl, by omega, by omega, ?_⟩
    rw [zrow_get, k2, sDrop_n hc i.1 (by omega)]
    exact p2 (fun q => c1 q.symm) c2 _ (zrow_get _ _ _) (mPush_m k1 (mF_row (Or.inl rfl)))
  · have hp : sPlC (h 129) a c = -5 := by
      by_cases q : sPlC (h 129) a c = -5
      · exact q
      · rw [if_neg q] at hw; omega
    have room := claim_room hW.c hc ha (sPlC_free hp)
    rw [k2, zwr_eq (a := 6 * c) (by omega) (by omega), zwr_eq (a := 72 + 6 * c) (by omega) (by omega), zwr_eq (a := 72 + 6 * c + h 129 (108 + c).toNat) (by omega) (by omega)]
    refine ⟨by omega, by omega, ?_⟩
    rintro _ rfl
    refine ⟨by omega, by omega, by omega, by omega, ?_⟩
    rintro _ rfl
    refine ⟨by omega, by omega, ?_⟩
    rw [zu_same, zu_nej _ _ _ (by omega), k2, zwr_eq (by omega) (by omega)]
    refine p3 (fun q => c1 q.symm) c2 _ ?_ (mPush_m k1 ((mF_zu (Or.inl rfl)).trans (mF_zu (Or.inl rfl))))
    rw [zu_row, zrow_get, zu_row, zrow_get, k2]
    unfold sClaim sAdd
    rw [su_ne _ _ (by omega), zwr_eq (by omega) (by omega)]
theorem c_X7_claim {B : Int} {h : zH} {a1 a2 a3 : Int} {n : Nat} (hW : WF B (h 129)) (hn : h 128 4 = (n : Int)) (n4 : n ≤ 4) (hv : a3 = 0 ∨ a3 = 1) : zSp 4 mX7_claim [zR 128, zI a1, zI a2, zI a3] h (fun q h' => q = some (zI (opClaim (h 129) a1 a2 a3).1) ∧ mAct n (opClaim (h 129) a1 a2 a3) h h') := by
  refine zSp_of (by decide +kernel) (Nat.le_of_ble_eq_true rfl) rfl (fun Γ => k_X7_claim_0  (by decide) ?_)
  unfold opClaim
  refine ⟨fun c => ?_, fun c => ?_⟩
  · rw [if_neg (fun q => q c)]
    have b := (hW.c a2 c.2).1
    refine ⟨1, _, by decide, c_X7_placeOfClaim c.2 b, ?_⟩
    rintro _ _ ⟨rfl, rfl⟩
    refine ⟨_, rfl, fun c2 => ?_, fun c2 => ?_⟩
    · have c3 : sPlC (h 129) a1 a2 = -5 := c2
      rw [if_pos c3]
      refine c_X7_claim_30 hW hn n4 c.1 c.2 hv (by rw [if_pos c3]) (fun q => ?_) (fun q q2 h' e f => absurd q2 q) (fun q q2 h' e f => ?_)
      · rw [if_pos q]; exact ⟨rfl, mAct_same (by decide)⟩
      · rw [if_neg q, if_neg q2]; exact ⟨rfl, mAct_ok (show 0 ≤ h 129 (108 + a2).toNat + 1 by omega) e f⟩
    · have c3 : ¬ sPlC (h 129) a1 a2 = -5 := c2
      have i := sPlC_in c3
      rw [if_neg c3]
      refine c_X7_claim_30 hW hn n4 c.1 c.2 hv (by rw [if_neg c3]) (fun q => ?_) (fun q q2 h' e f => ?_) (fun q q2 h' e f => absurd (show a3 = 1 by omega) q)
      · rw [if_pos q]; exact ⟨rfl, mAct_same (by decide)⟩
      · rw [if_neg q, if_pos q2]; exact ⟨rfl, mAct_ok (show 0 ≤ h 129 (108 + a2).toNat - 1 by omega) e f⟩
  · rw [if_pos c]; exact ⟨rfl, mAct_same (by decide)⟩
theorem c_X7_handOver {B : Int} {h : zH} {a1 a2 : Int} {n : Nat} (hW : WF B (h 129)) (hn : h 128 4 = (n : Int)) (n4 : n ≤ 4) : zSp 3 mX7_handOver [zR 128, zI a1, zI a2] h (fun q h' => q = some (zI (opHand (h 129) a1 a2).1) ∧ mAct n (opHand (h 129) a1 a2) h h') := by
  refine zSp_of (by decide +kernel) (Nat.le_of_ble_eq_true rfl) rfl (fun Γ => k_X7_handOver_0  (by decide) ?_)
  have w := hW.n
  unfold WFn at w
  unfold opHand
  refine ⟨fun c => ?_, fun c1 => ⟨fun c2 => ?_, fun c => ?_⟩⟩
  · rw [if_pos c]; exact ⟨rfl, mAct_same (by decide)⟩
  · rw [if_neg (fun q => q c1), if_neg (fun q => q c2), zwr_eq (a := 126 + a1) (by omega) (by omega)]
    have ho := (hW.v a1 c1).2.2
    refine ⟨by omega, by omega, ?_⟩
    rintro _ rfl
    refine ⟨2, _, by decide, c_X7_loansOf (by omega), ?_⟩
    rintro _ _ ⟨rfl, rfl⟩
    refine ⟨_, rfl, fun c => ?_, fun c3 => ⟨ho, c1, by omega, by omega, fun c4 => ⟨fun c5 => ?_, fun c => ?_⟩, fun c => ?_⟩⟩
    · rw [if_pos c]; exact ⟨rfl, mAct_same (by decide)⟩
    · rw [if_neg c3, if_neg c4, if_neg (fun q => c5 q.symm)]
      obtain ⟨k1, k2⟩ := mPush_kn hW.z hn n4
      refine ⟨1, _, by decide, c_X7_know (by omega), ?_⟩
      rintro _ _ ⟨rfl, rfl⟩
      refine ⟨rfl, by omega, by omega, ?_⟩
      rintro _ rfl
      refine ⟨ho, c1, by omega, by omega, ?_⟩
      rintro _ rfl
      refine ⟨c2, c1, by omega, by omega, ?_⟩
      rintro _ rfl
      refine ⟨rfl, mAct_ok ho.1 ?_ (mPush_m k1 ((mF_zu (Or.inl rfl)).trans ((mF_zu (Or.inl rfl)).trans (mF_zu (Or.inl rfl)))))⟩
      rw [zu_row, zrow_get, zu_row, zrow_get, zu_row, zrow_get, k2]
      rfl
    · rw [if_neg c3, if_neg c4, if_pos c.symm]; exact ⟨rfl, mAct_same (by decide)⟩
    · rw [if_neg c3, if_pos c]; exact ⟨rfl, mAct_same (by decide)⟩
  · rw [if_neg (fun q => q c1), if_pos c]; exact ⟨rfl, mAct_same (by decide)⟩
