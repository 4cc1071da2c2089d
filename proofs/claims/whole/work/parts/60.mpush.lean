/-! the reference's acts: what it knows grows by the state that was -/
def mH (h : zH) (i : Nat) : zs := fun j => if j < 336 then h 132 (336 * i + j) else 0
theorem mH_lt {h : zH} {i j : Nat} (hj : j < 336) : mH h i j = h 132 (336 * i + j) := if_pos hj
theorem mH_ge {h : zH} {i j : Nat} (hj : ¬ j < 336) : mH h i j = 0 := if_neg hj
def mG (h h' : zH) : Prop := (∀ k : Nat, (k ≤ 127 ∨ k = 133 ∨ k = 134 ∨ 140 ≤ k) → h' k = h k) ∧ ∀ i : Nat, i ≠ 4 → i ≠ 14 → i ≠ 15 → i ≠ 16 → i ≠ 18 → h' 128 i = h 128 i
theorem mF.g {h h' : zH} (f : mF h h') : mG h h' := ⟨fun k hk => f.1 k (by omega), fun i _ i1 i2 i3 i4 => f.2 i i1 i2 i3 i4⟩
theorem mG.trans {h h1 h2 : zH} (a : mG h h1) (b : mG h1 h2) : mG h h2 := ⟨fun k hk => (b.1 k hk).trans (a.1 k hk), fun i i0 i1 i2 i3 i4 => (b.2 i i0 i1 i2 i3 i4).trans (a.2 i i0 i1 i2 i3 i4)⟩
def mPush (n : Nat) (h h' : zH) : Prop := h' 128 4 = ((pushN n : Nat) : Int) ∧ (∀ i : Nat, i < pushN n → mH h' i = pushH n (mH h) (h 129) i) ∧ mG h h'
theorem mH_congr {h h' : zH} (e : h' 132 = h 132) (i : Nat) : mH h' i = mH h i := by unfold mH; rw [e]
theorem mPush_m {n : Nat} {h h1 h2 : zH} (p : mPush n h h1) (f : mF h1 h2) : mPush n h h2 := ⟨by rw [f.2 4 (by decide) (by decide) (by decide) (by decide)]; exact p.1, fun i hi => by rw [mH_congr (f.1 132 (by decide))]; exact p.2.1 i hi, p.2.2.trans f.g⟩
theorem mPush_kn {n : Nat} {h : zH} (hz : WFz (h 129)) (hn : h 128 4 = (n : Int)) (n4 : n ≤ 4) : mPush n h (sKn h) ∧ (sKn h) 129 = h 129 := by
  unfold sKn
  by_cases e : n = 4
  · rw [if_pos (by omega)]
    refine ⟨⟨?_, fun i hi => ?_, fun k hk => by rw [zu_nekr _ _ _ (by omega), zrow_ne _ _ (by omega)], fun i i0 _ _ _ _ => by rw [zu_nej _ _ _ i0, zrow_ne _ _ (by decide)]⟩, by rw [zu_nekr _ _ _ (by decide), zrow_ne _ _ (by decide)]⟩
    · rw [zu_same]; unfold pushN; rw [if_pos e]; rfl
    · funext j
      unfold pushN at hi
      rw [if_pos e] at hi
      unfold pushH
      rw [if_pos e]
      by_cases ej : j < 336
      · rw [mH_lt ej, zu_nekr _ _ _ (by decide), zrow_get]
        unfold sKnow sBack
        by_cases e3 : i < 3
        · rw [if_pos e3, if_neg (by omega), if_pos (by omega), mH_lt ej, show 336 * i + j + 336 = 336 * (i + 1) + j by omega]
        · rw [if_neg e3, if_pos (by omega), show 336 * i + j - (336 * (3 : Int)).toNat = j by omega]
      · rw [mH_ge ej]
        by_cases e3 : i < 3
        · rw [if_pos e3, mH_ge ej]
        · rw [if_neg e3, hz j (by omega)]
  · rw [if_neg (by omega)]
    refine ⟨⟨?_, fun i hi => ?_, fun k hk => by rw [zu_nekr _ _ _ (by omega), zrow_ne _ _ (by omega)], fun i i0 _ _ _ _ => by rw [zu_nej _ _ _ i0, zrow_ne _ _ (by decide)]⟩, by rw [zu_nekr _ _ _ (by decide), zrow_ne _ _ (by decide)]⟩
    · rw [zu_same]; unfold pushN; rw [if_neg e, hn]; omega
    · funext j
      unfold pushN at hi
      rw [if_neg e] at hi
      unfold pushH
      rw [if_neg e]
      by_cases ej : j < 336
      · rw [mH_lt ej, zu_nekr _ _ _ (by decide), zrow_get]
        unfold sKnow
        rw [hn]
        by_cases e3 : i < n
        · rw [if_pos e3, if_neg (by omega), mH_lt ej]
        · rw [if_neg e3, if_pos (by omega), show 336 * i + j - (336 * (n : Int)).toNat = j by omega]
      · rw [mH_ge ej]
        by_cases e3 : i < n
        · rw [if_pos e3, mH_ge ej]
        · rw [if_neg e3, hz j (by omega)]
def mAct (n : Nat) (op : Int × zs) (h h' : zH) : Prop := (op.1 < 0 → h' 129 = h 129 ∧ mF h h') ∧ (0 ≤ op.1 → h' 129 = op.2 ∧ mPush n h h')
theorem mAct_err {n : Nat} {op : Int × zs} {h h' : zH} (h1 : op.1 < 0) (h2 : h' 129 = h 129) (h3 : mF h h') : mAct n op h h' := ⟨fun _ => ⟨h2, h3⟩, fun q => absurd q (by omega)⟩
theorem mAct_ok {n : Nat} {op : Int × zs} {h h' : zH} (h1 : 0 ≤ op.1) (h2 : h' 129 = op.2) (h3 : mPush n h h') : mAct n op h h' := ⟨fun q => absurd q (by omega), fun _ => ⟨h2, h3⟩⟩
theorem mAct_same {n : Nat} {e : Int} {s : zs} {h : zH} (h1 : e < 0) : mAct n (e, s) h h := mAct_err h1 rfl mF.rfl'
theorem c_X7_lend {B : Int} {h : zH} {a1 a2 a3 a4 : Int} {n : Nat} (hW : WF B (h 129)) (hn : h 128 4 = (n : Int)) (n4 : n ≤ 4) : zSp 4 mX7_lend [zR 128, zI a1, zI a2, zI a3, zI a4] h (fun q h' => q = some (zI (opLend (h 129) a1 a2 a3 a4).1) ∧ mAct n (opLend (h 129) a1 a2 a3 a4) h h') := by
  refine zSp_of (by decide +kernel) (Nat.le_of_ble_eq_true rfl) rfl (fun Γ => k_X7_lend_0  (by decide) ?_)
  have w := hW.n
  unfold WFn at w
  refine ⟨_, _, by decide, c_X7_lendFault, ?_⟩
  rintro _ _ ⟨rfl, rfl⟩
  refine ⟨_, rfl, fun c => ?_, fun c => ?_⟩
  · have e : opLend (h 129) a1 a2 a3 a4 = (h 129 133, sLend (h 129) a1 a2 a3 a4) := by unfold opLend; rw [if_neg (by omega)]
    obtain ⟨c1, c2, c3, c4, c5, c6, c7, c8, c9⟩ := sFault_ok (show ¬ sFault (h 129) a1 a2 a3 a4 < 0 by omega)
    obtain ⟨k1, k2⟩ := mPush_kn hW.z hn n4
    refine ⟨1, _, by decide, c_X7_know (by omega), ?_⟩
    rintro _ _ ⟨rfl, rfl⟩
    refine ⟨rfl, 2, _, by decide, c_X7_lends c1 c2 c3 (by rw [k2]; omega), ?_⟩
    rintro _ _ ⟨rfl, rfl⟩
    refine ⟨_, rfl, ?_⟩
    rw [e, k2, (sLend_cnt (by omega) (by omega) c1 c2 c3).2, show h 129 133 + 1 - 1 = h 129 133 by omega, zwr_eq (by omega) (by omega)]
    exact ⟨rfl, mAct_ok (show 0 ≤ h 129 133 by omega) (zrow_get _ _ _) (mPush_m k1 (mF_row (Or.inl rfl)))⟩
  · rw [opLend_err rfl (by omega)]
    exact ⟨rfl, mAct_same (by omega)⟩
theorem c_X7_half {B : Int} {h : zH} {a1 a2 a3 : Int} {n : Nat} (hW : WF B (h 129)) (hn : h 128 4 = (n : Int)) (n4 : n ≤ 4) : zSp 3 mX7_half [zR 128, zI a1, zI a2, zI a3] h (fun q h' => q = some (zI (opHalf (h 129) a1 a2 a3).1) ∧ mAct n (opHalf (h 129) a1 a2 a3) h h') := by
  refine zSp_of (by decide +kernel) (Nat.le_of_ble_eq_true rfl) rfl (fun Γ => k_X7_half_0  (by decide) ?_)
  have w := hW.n
  unfold WFn at w
  unfold opHalf
  refine ⟨fun c => ?_, fun c1 => ⟨fun c => ?_, fun c2 => ⟨fun c3 => ⟨fun c4 => ⟨c1, c3, by omega, by omega, ?_⟩, fun c => ?_⟩, fun c => ?_⟩⟩⟩
  · rw [if_pos c]; exact ⟨rfl, mAct_same (by decide)⟩
  · rw [if_neg (fun q => q c1), if_pos c]; exact ⟨rfl, mAct_same (by decide)⟩
  · rw [if_neg (fun q => q c1), if_neg (fun q => q c2), if_neg (fun q => q c3), if_neg c4]
    intro x ex
    have ex2 : x = sHalf (h 129) a1 a3 := ex
    rw [← ex2]
    refine ⟨fun c => ?_, fun c5 => ⟨c1, c3, by omega, by omega, fun c6 => ?_, fun c => ?_⟩⟩
    · rw [if_pos c]; exact ⟨rfl, mAct_same (by decide)⟩
    · rw [if_neg c5, if_neg c6]
      refine ⟨1, _, by decide, c_X7_isFull, ?_⟩
      rintro _ _ ⟨rfl, rfl⟩
      refine ⟨_, rfl, fun c7 => ?_, fun c => ?_⟩
      · have c8 : ¬ (h 129 132 = 40 ∨ h 129 133 = 1000) := by
          intro q; rw [if_pos q] at c7; exact absurd c7 (by decide)
        rw [if_neg c8]
        obtain ⟨k1, k2⟩ := mPush_kn hW.z hn n4
        refine ⟨1, _, by decide, c_X7_know (by omega), ?_⟩
        rintro _ _ ⟨rfl, rfl⟩
        refine ⟨rfl, 2, _, by decide, c_X7_lends c1 c2 c3 (by rw [k2]; omega), ?_⟩
        rintro _ _ ⟨rfl, rfl⟩
        refine ⟨_, rfl, rfl, ?_⟩
        rw [k2]
        exact mAct_ok (show 0 ≤ x by omega) (zrow_get _ _ _) (mPush_m k1 (mF_row (Or.inl rfl)))
      · have c8 : h 129 132 = 40 ∨ h 129 133 = 1000 := by
          by_cases q : h 129 132 = 40 ∨ h 129 133 = 1000
          · exact q
          · rw [if_neg q] at c; exact absurd rfl c
        rw [if_pos c8]; exact ⟨rfl, mAct_same (by decide)⟩
    · rw [if_neg c5, if_pos c]; exact ⟨rfl, mAct_same (by decide)⟩
  · rw [if_neg (fun q => q c1), if_neg (fun q => q c2), if_neg (fun q => q c3), if_pos c]; exact ⟨rfl, mAct_same (by decide)⟩
  · rw [if_neg (fun q => q c1), if_neg (fun q => q c2), if_pos c]; exact ⟨rfl, mAct_same (by decide)⟩
theorem c_X7_giveBack {B : Int} {h : zH} {a1 : Int} {n : Nat} (hW : WF B (h 129)) (hn : h 128 4 = (n : Int)) (n4 : n ≤ 4) : zSp 4 mX7_giveBack [zR 128, zI a1] h (fun q h' => q = some (zI (opGive (h 129) a1).1) ∧ mAct n (opGive (h 129) a1) h h') := by
  refine zSp_of (by decide +kernel) (Nat.le_of_ble_eq_true rfl) rfl (fun Γ => k_X7_giveBack_0  (by decide) ?_)
  have w := hW.n
  unfold WFn at w
  unfold opGive
  refine ⟨3, _, by decide, c_X7_backFault (by omega) (fun x x0 x1 => ⟨(hW.l x x0 x1).2.2.1, (hW.l x x0 x1).2.2.2.1⟩), ?_⟩
  rintro _ _ ⟨⟨x, rfl, hx⟩, rfl⟩
  refine ⟨_, rfl, fun c => ?_, fun c => ?_⟩
  · rcases hx with ⟨-, q⟩ | ⟨c1, ⟨-, q⟩ | ⟨c2, q⟩⟩
    · exact absurd c (by omega)
    · exact absurd c (by omega)
    rw [if_neg c1, if_pos c2]
    obtain ⟨k1, k2⟩ := mPush_kn hW.z hn n4
    have p := sPlace_ok c1 w.1
    have l := hW.l _ p.1 p.2
    refine ⟨1, _, by decide, c_X7_know (by omega), ?_⟩
    rintro _ _ ⟨rfl, rfl⟩
    refine ⟨rfl, 2, _, by decide, c_X7_placeOf (by rw [k2]; omega), ?_⟩
    rintro _ _ ⟨rfl, rfl⟩
    rw [k2]
    refine ⟨_, rfl, 2, _, by decide, c_X7_gives (by rw [k2]; exact p) (by rw [k2]; omega) (by rw [k2]; exact l.2.1) (by rw [k2]; exact l.2.2.1) (by rw [k2]; exact l.2.2.2.1), ?_⟩
    rintro _ _ ⟨rfl, rfl⟩
    rw [k2]
    refine ⟨_, rfl, rfl, mAct_ok ?_ (zrow_get _ _ _) (mPush_m k1 (mF_row (Or.inl rfl)))⟩
    exact ((WF_give hW p c2).h _ _ l.2.1 l.2.2.2.1).1
  · rcases hx with ⟨c1, q⟩ | ⟨c1, ⟨c2, q⟩ | ⟨-, q⟩⟩
    · rw [if_pos c1, q]; exact ⟨rfl, mAct_same (by decide)⟩
    · rw [if_neg c1, if_neg c2, q]; exact ⟨rfl, mAct_same (by decide)⟩
    · exact absurd c (by omega)
