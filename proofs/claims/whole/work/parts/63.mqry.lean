/-! the reference: undo, keep, restore, the text's rows; what it tells -/
theorem c_X7_undo_l {Post : Option zA → zH → Prop} {Γ : zCx} {h : zH} {k : Nat} (hk : h 128 4 = (k : Int)) (k4 : k < 4) (hp : Post (some (zI (k : Int))) (zrow h 129 (sCp (fun j => h 132 (336 * k + j)) (h 129)))) : ∀ n m : Nat, n + m = 336 → (fun (d : Nat) => zV RX7 cX7_undo 2 (some .int) d Post Γ 22 [(0, zR 128), (1, zI (m : Int))] [] (zrow h 129 (fun j => if j < m then (fun j => h 132 (336 * k + j)) j else h 129 j))) 1 := by
  intro n
  induction n with
  | zero =>
    intro m hm
    refine k_X7_undo_22 (by decide) ⟨fun _ => ?_, fun z => absurd z (by omega)⟩
    rw [show m = 336 by omega, zrow_ne (k' := 128) _ _ (by decide), hk]
    exact hp
  | succ n ih =>
    intro m hm
    refine k_X7_undo_22 (by decide) ⟨fun z => absurd z (by omega), fun _ => ?_⟩
    rw [zrow_ne (k' := 128) _ _ (by decide), hk, zwr_eq (a := 336 * (k : Int)) (by omega) (by omega), zwr_eq (by omega) (by omega)]
    refine ⟨by omega, by omega, by omega, by omega, ?_⟩
    rintro _ rfl
    intro x e
    have key := ih (m + 1) (by omega)
    rw [← c_cp_l (f := fun j => h 132 (336 * k + j)) (by omega)] at key
    rw [zstep e (by omega), Int.toNat_natCast, zrow_ne (k' := 132) _ _ (by decide), show (336 * (k : Int) + (m : Int)).toNat = 336 * k + m by omega]
    exact key
theorem c_X7_undo {h : zH} {n : Nat} (hz : WFz (h 129)) (hn : h 128 4 = (n : Int)) (n4 : n ≤ 4) : zSp 1 mX7_undo [zR 128] h (fun q h' => (n = 0 ∧ q = some (zI (-5)) ∧ h' = h) ∨ (n ≠ 0 ∧ q = some (zI ((n - 1 : Nat) : Int)) ∧ h' 129 = mH h (n - 1) ∧ h' 128 4 = ((n - 1 : Nat) : Int) ∧ h' 132 = h 132 ∧ mG h h')) := by
  refine zSp_of (by decide +kernel) (Nat.le_of_ble_eq_true rfl) rfl (fun Γ => k_X7_undo_0  (by decide) ?_)
  refine ⟨fun c => ?_, fun c => Or.inl ⟨by omega, rfl, rfl⟩⟩
  rintro _ rfl
  rw [hn, zwr_eq (by omega) (by omega)]
  have key := c_X7_undo_l (Post := fun q h' => (n = 0 ∧ q = some (zI (-5)) ∧ h' = h) ∨ (n ≠ 0 ∧ q = some (zI ((n - 1 : Nat) : Int)) ∧ h' 129 = mH h (n - 1) ∧ h' 128 4 = ((n - 1 : Nat) : Int) ∧ h' 132 = h 132 ∧ mG h h')) (Γ := Γ) (h := zu h 128 4 ((n : Int) - 1)) (k := n - 1) (by rw [zu_same]; omega) (by omega) ?_ 336 0 rfl
  · rw [c_cp_0] at key
    exact key
  · refine Or.inr ⟨by omega, rfl, ?_, ?_, ?_, fun k hk => ?_, fun i i0 _ _ _ _ => ?_⟩
    · rw [zrow_get, zu_nekr (k' := 129) _ _ _ (by decide), zu_nekr (k' := 132) _ _ _ (by decide)]
      funext j
      unfold sCp
      by_cases ej : j < 336
      · rw [if_pos ej, mH_lt ej]
      · rw [if_neg ej, mH_ge ej, hz j (by omega)]
    · rw [zrow_ne _ _ (by decide), zu_same]; omega
    · rw [zrow_ne _ _ (by decide), zu_nekr _ _ _ (by decide)]
    · rw [zrow_ne _ _ (by omega), zu_nekr _ _ _ (by omega)]
    · rw [zrow_ne _ _ (by decide), zu_nej _ _ _ i0]
theorem c_X7_keep_l {Post : Option zA → zH → Prop} {Γ : zCx} {h : zH} (hp : Post (some (zI (h 129 132))) (zu (zrow h 133 (sCp (h 129) (h 133))) 128 6 1)) : ∀ n m : Nat, n + m = 336 → (fun (d : Nat) => zV RX7 cX7_keep 2 (some .int) d Post Γ 2 [(0, zR 128), (1, zI (m : Int))] [] (zrow h 133 (fun j => if j < m then h 129 j else h 133 j))) 1 := by
  intro n
  induction n with
  | zero =>
    intro m hm
    refine k_X7_keep_2 (by decide) ⟨fun _ => ?_, fun z => absurd z (by omega)⟩
    rintro _ rfl
    rw [show m = 336 by omega, zu_nekr (k' := 129) _ _ _ (by decide), zrow_ne (k' := 129) _ _ (by decide)]
    exact hp
  | succ n ih =>
    intro m hm
    refine k_X7_keep_2 (by decide) ⟨fun z => absurd z (by omega), fun _ => ⟨by omega, by omega, by omega, by omega, ?_⟩⟩
    rintro _ rfl
    intro x e
    rw [zstep e (by omega), Int.toNat_natCast, zrow_ne _ _ (by decide), c_cp_l (by omega)]
    exact ih (m + 1) (by omega)
theorem c_X7_keep {h : zH} : zSp 1 mX7_keep [zR 128] h (fun q h' => q = some (zI (h 129 132)) ∧ h' = zu (zrow h 133 (sCp (h 129) (h 133))) 128 6 1) := by
  refine zSp_of (by decide +kernel) (Nat.le_of_ble_eq_true rfl) rfl (fun Γ => k_X7_keep_0  (by decide) ?_)
  have key := c_X7_keep_l (Post := fun q h' => q = some (zI (h 129 132)) ∧ h' = zu (zrow h 133 (sCp (h 129) (h 133))) 128 6 1) (Γ := Γ) (h := h) ⟨rfl, rfl⟩ 336 0 rfl
  rw [c_cp_0] at key
  exact key
theorem c_X7_restore_l {Post : Option zA → zH → Prop} {Γ : zCx} {h : zH} (hp : Post (some (zI (h 133 132))) (zrow h 129 (sCp (h 133) (h 129)))) : ∀ n m : Nat, n + m = 336 → (fun (d : Nat) => zV RX7 cX7_restore 2 (some .int) d Post Γ 16 [(0, zR 128), (1, zI (m : Int))] [] (zrow h 129 (fun j => if j < m then h 133 j else h 129 j))) 2 := by
  intro n
  induction n with
  | zero =>
    intro m hm
    refine k_X7_restore_16 (by decide) ⟨fun _ => ?_, fun z => absurd z (by omega)⟩
    rw [show m = 336 by omega, zrow_get]
    exact hp
  | succ n ih =>
    intro m hm
    refine k_X7_restore_16 (by decide) ⟨fun z => absurd z (by omega), fun _ => ⟨by omega, by omega, by omega, by omega, ?_⟩⟩
    rintro _ rfl
    intro x e
    rw [zstep e (by omega), Int.toNat_natCast, zrow_ne _ _ (by decide), c_cp_l (by omega)]
    exact ih (m + 1) (by omega)
def opRest (k : Int) (s sk : zs) : Int × zs := if k = 0 then (-5, s) else (sk 132, sk)
theorem c_X7_restore {B : Int} {h : zH} {n : Nat} (hz : WFz (h 129)) (hk : ¬ h 128 6 = 0 → WF B (h 133)) (hn : h 128 4 = (n : Int)) (n4 : n ≤ 4) : zSp 2 mX7_restore [zR 128] h (fun q h' => q = some (zI (opRest (h 128 6) (h 129) (h 133)).1) ∧ mAct n (opRest (h 128 6) (h 129) (h 133)) h h') := by
  refine zSp_of (by decide +kernel) (Nat.le_of_ble_eq_true rfl) rfl (fun Γ => k_X7_restore_0  (by decide) ?_)
  unfold opRest
  refine ⟨fun c => ?_, fun c => ?_⟩
  · rw [if_neg c]
    obtain ⟨k1, k2⟩ := mPush_kn hz hn n4
    have w := hk c
    refine ⟨1, _, by decide, c_X7_know (by omega), ?_⟩
    rintro _ _ ⟨rfl, rfl⟩
    have e133 : sKn h 133 = h 133 := k1.2.2.1 133 (by omega)
    refine ⟨rfl, ?_⟩
    have key := c_X7_restore_l (Post := fun q h' => q = some (zI (h 133 132)) ∧ mAct n (h 133 132, h 133) h h') (Γ := Γ) (h := sKn h) ?_ 336 0 rfl
    · rw [c_cp_0] at key
      exact key
    · rw [e133, k2]
      refine ⟨rfl, mAct_ok w.n.1 ?_ (mPush_m k1 (mF_row (Or.inl rfl)))⟩
      rw [zrow_get]
      exact sCp_z w.z hz
  · rw [if_pos c]
    exact ⟨rfl, mAct_same (by decide)⟩
theorem c_X7_type {h : zH} {a : Int} {t : Nat} (ht : h 128 8 = (t : Int)) (t60 : t ≤ 60) : zSp 1 mX7_type [zR 128, zI a] h (fun q h' => (t = 60 ∧ q = some (zI (-3)) ∧ h' = h) ∨ (t < 60 ∧ q = some (zI ((t + 1 : Nat) : Int)) ∧ h' = zu (zu h 134 t a) 128 8 ((t + 1 : Nat) : Int))) := by
  refine zSp_of (by decide +kernel) (Nat.le_of_ble_eq_true rfl) rfl (fun Γ => k_X7_type_0  (by decide) ?_)
  refine ⟨fun c => ⟨by omega, by omega, ?_⟩, fun c => Or.inl ⟨by omega, rfl, rfl⟩⟩
  rintro _ rfl
  rintro _ rfl
  rw [ht, zu_nek (k := 134) (k' := 128) _ _ _ _ (by decide), ht, zwr_eq (by omega) (by omega), zu_same, Int.toNat_natCast]
  exact Or.inr ⟨by omega, rfl, rfl⟩
theorem c_X7_clearText {h : zH} : zSp 1 mX7_clearText [zR 128] h (fun q h' => q = some (zI (h 128 8)) ∧ h' = zu h 128 8 0) := by
  refine zSp_of (by decide +kernel) (Nat.le_of_ble_eq_true rfl) rfl (fun Γ => k_X7_clearText_0  (by decide) ?_)
  rintro _ rfl
  rintro _ rfl
  exact ⟨rfl, rfl⟩
theorem c_X7_stop {h : zH} {a1 : Int} : zSp 2 mX7_stop [zR 128, zI a1] h (fun q h' => q = some (zI (if 0 ≤ a1 ∧ a1 ≤ 1 then (if a1 = 0 then h 128 9 else h 128 10) else -2)) ∧ h = h') := by
  refine zSp_of (by decide +kernel) (Nat.le_of_ble_eq_true rfl) rfl (fun Γ => k_X7_stop_0  (by decide) ?_)
  refine ⟨fun c => ⟨fun c2 => ?_, fun c2 => ?_⟩, fun c => ?_⟩
  · rw [if_pos c, if_neg c2]; exact ⟨rfl, rfl⟩
  · rw [if_pos c, if_pos c2]; exact ⟨rfl, rfl⟩
  · rw [if_neg c]; exact ⟨rfl, rfl⟩
/-! what is told of a state -/
def qRead (s : zs) (a c : Int) : Int := if (0 ≤ a ∧ a ≤ 5) ∧ 0 ≤ c ∧ c ≤ 5 then (if s (6 * c + a).toNat = 0 then -4 else s (114 + c).toNat) else -1
def qCell1 (s : zs) (c w : Int) : Int := if w = 0 then s (114 + c).toNat else if w = 1 then s (120 + c).toNat else if w = 2 then s (126 + c).toNat else if w = 3 then sAg s c 3 6 else if w = 4 then s (108 + c).toNat else if w = 5 then (if s (108 + c).toNat = 0 then -5 else s (72 + 6 * c).toNat) else if w = 6 then sCnt s c (s 132).toNat else if w = 7 then sWh s c 6 else if w = 8 then sAg s c 8 6 else -2
def qCell (s : zs) (c w : Int) : Int := if 0 ≤ c ∧ c ≤ 5 then qCell1 s c w else -1
noncomputable def qPart1 (s : zs) (a c w : Int) : Int := if w = 0 then s (6 * c + a).toNat else if w = 1 then sSum s a c 1 (s 132).toNat else if w = 2 then sSum s a c 2 (s 132).toNat else if w = 3 then s (36 + 6 * c + a).toNat else if w = 4 then sPlC s a c else if w = 5 then gat c 6 0 s a (6 * c + a).toNat else -2
noncomputable def qPart (s : zs) (a c w : Int) : Int := if (0 ≤ a ∧ a ≤ 5) ∧ 0 ≤ c ∧ c ≤ 5 then qPart1 s a c w else -1
noncomputable def qLoan1 (s : zs) (p w : Int) : Int := if w = 0 then s (136 + 5 * p + 1).toNat else if w = 1 then s (136 + 5 * p + 2).toNat else if w = 2 then s (136 + 5 * p + 3).toNat else if w = 3 then s (136 + 5 * p + 4).toNat else if w = 4 then @ite _ (sCan s p) (Classical.propDecidable _) 1 0 else -2
noncomputable def qLoan (s : zs) (k w : Int) : Int := if sPlace s k = -5 then -1 else qLoan1 s (sPlace s k) w
noncomputable def qReason (s : zs) (a c : Int) : Int := if (0 ≤ a ∧ a ≤ 5) ∧ 0 ≤ c ∧ c ≤ 5 then (if gat c 6 0 s a (6 * c + a).toNat = 64 then 0 else if 0 < sAg s c 8 6 then 1 else 2) else -1
def qChain (s : zs) (c : Int) : Int := if 0 ≤ c ∧ c ≤ 5 then ((cTot (fun i j => sLk s c i j (s 132).toNat) : Nat) : Int) else -1
def qCount (s : zs) (k t w : Int) : Int := if w = 0 then s 132 else if w = 1 then s 133 else if w = 2 then sSumC s 2 6 else if w = 3 then sSumC s 3 6 else if w = 4 then s 134 else if w = 5 then s 135 else if w = 6 then sSumC s 6 6 else if w = 7 then k else if w = 8 then t else -2
theorem c_X7_read {h : zH} {a1 a2 : Int} : zSp 4 mX7_read [zR 128, zI a1, zI a2] h (fun q h' => q = some (zI (qRead (h 129) a1 a2)) ∧ h = h') := by
  refine zSp_of (by decide +kernel) (Nat.le_of_ble_eq_true rfl) rfl (fun Γ => k_X7_read_0  (by decide) ?_)
  unfold qRead
  refine ⟨fun c => ⟨c.1, c.2, by omega, by omega, fun c2 => ?_, fun c2 => ?_⟩, fun c => ?_⟩
  · rw [if_pos c, if_neg c2, zwr_eq (by omega) (by omega)]
    exact ⟨by omega, by omega, rfl, rfl⟩
  · rw [if_pos c, if_pos c2]; exact ⟨rfl, rfl⟩
  · rw [if_neg c]; exact ⟨rfl, rfl⟩
theorem c_X7_cell {B : Int} {h : zH} {a1 a2 : Int} (hW : WF B (h 129)) : zSp 3 mX7_cell [zR 128, zI a1, zI a2] h (fun q h' => q = some (zI (qCell (h 129) a1 a2)) ∧ h = h') := by
  refine zSp_of (by decide +kernel) (Nat.le_of_ble_eq_true rfl) rfl (fun Γ => k_X7_cell_0  (by decide) ?_)
  have w := hW.n
  unfold WFn at w
  unfold qCell
  refine ⟨fun c => ?_, fun c => by rw [if_neg c]; exact ⟨rfl, rfl⟩⟩
  have hh : ∀ a : Int, 0 ≤ a → a ≤ 5 → 0 ≤ h 129 (36 + 6 * a1 + a).toNat ∧ h 129 (36 + 6 * a1 + a).toNat ≤ 1 := fun a a0 a5 => by
    have := (hW.h a a1 ⟨a0, a5⟩ c).2
    omega
  rw [if_pos c, zwr_eq (a := 114 + a1) (by omega) (by omega), zwr_eq (a := 120 + a1) (by omega) (by omega), zwr_eq (a := 126 + a1) (by omega) (by omega), zwr_eq (a := 108 + a1) (by omega) (by omega), zwr_eq (a := 6 * a1) (by omega) (by omega), zwr_eq (a := 72 + 6 * a1) (by omega) (by omega)]
  refine ⟨fun e => ?_, fun e => ?_, fun e => ?_, fun e => ?_, fun e => ?_, fun e => ?_, fun e => ?_, fun e => ?_, fun e => ?_, fun e => ?_⟩
  · rw [e]; exact ⟨by omega, by omega, rfl, rfl⟩
  · rw [e]; exact ⟨by omega, by omega, rfl, rfl⟩
  · rw [e]; exact ⟨by omega, by omega, rfl, rfl⟩
  · rw [e]
    refine ⟨2, _, by decide, c_X7_agentsOf c hh, ?_⟩
    rintro _ _ ⟨rfl, rfl⟩
    exact ⟨_, rfl, rfl, rfl⟩
  · rw [e]; exact ⟨by omega, by omega, rfl, rfl⟩
  · rw [e]
    show _ ∧ _ ∧ ((_ → _ ∧ _ ∧ some (zI (h 129 (72 + 6 * a1).toNat)) = some (zI (if h 129 (108 + a1).toNat = 0 then -5 else h 129 (72 + 6 * a1).toNat)) ∧ _) ∧ (_ → some (zI (-5)) = some (zI (if h 129 (108 + a1).toNat = 0 then -5 else h 129 (72 + 6 * a1).toNat)) ∧ _))
    refine ⟨by omega, by omega, fun c2 => ?_, fun c2 => ?_⟩
    · rw [if_neg c2]; exact ⟨by omega, by omega, rfl, rfl⟩
    · rw [if_pos c2]; exact ⟨rfl, rfl⟩
  · rw [e]
    refine ⟨2, _, by decide, c_X7_loansOf (by omega), ?_⟩
    rintro _ _ ⟨rfl, rfl⟩
    exact ⟨_, rfl, rfl, rfl⟩
  · rw [e]
    refine ⟨2, _, by decide, c_X7_wholeOf c, ?_⟩
    rintro _ _ ⟨rfl, rfl⟩
    exact ⟨_, rfl, rfl, rfl⟩
  · rw [e]
    refine ⟨2, _, by decide, c_X7_agentsOf c hh, ?_⟩
    rintro _ _ ⟨rfl, rfl⟩
    exact ⟨_, rfl, rfl, rfl⟩
  · unfold qCell1
    rw [if_neg (by omega), if_neg (by omega), if_neg (by omega), if_neg (by omega), if_neg (by omega), if_neg (by omega), if_neg (by omega), if_neg (by omega), if_neg (by omega)]
    exact ⟨rfl, rfl⟩
theorem c_X7_part {B : Int} {h : zH} {a1 a2 a3 : Int} (hW : WF B (h 129)) : zSp 5 mX7_part [zR 128, zI a1, zI a2, zI a3] h (fun q h' => q = some (zI (qPart (h 129) a1 a2 a3)) ∧ h' 129 = h 129 ∧ mF h h') := by
  refine zSp_of (by decide +kernel) (Nat.le_of_ble_eq_true rfl) rfl (fun Γ => k_X7_part_0  (by decide) ?_)
  have w := hW.n
  unfold WFn at w
  unfold qPart
  refine ⟨fun c => ?_, fun c => by rw [if_neg c]; exact ⟨rfl, rfl, mF.rfl'⟩⟩
  have hl : ∀ x : Int, 0 ≤ x → x < h 129 132 → 0 ≤ h 129 (136 + 5 * x + 4).toNat ∧ h 129 (136 + 5 * x + 4).toNat ≤ 64 := fun x x0 x1 => by
    have := (hW.l x x0 x1).2.2.2.2
    omega
  rw [if_pos c]
  refine ⟨fun e => ?_, fun e => ?_, fun e => ?_, fun e => ?_, fun e => ?_, fun e => ?_, fun e => ?_⟩
  · rw [e]; exact ⟨c.1, c.2, by omega, by omega, rfl, rfl, mF.rfl'⟩
  · rw [e]
    refine ⟨2, _, by decide, c_X7_sum (by decide) (by omega) hl, ?_⟩
    rintro _ _ ⟨rfl, rfl⟩
    exact ⟨_, rfl, rfl, rfl, mF.rfl'⟩
  · rw [e]
    refine ⟨2, _, by decide, c_X7_sum (by decide) (by omega) hl, ?_⟩
    rintro _ _ ⟨rfl, rfl⟩
    exact ⟨_, rfl, rfl, rfl, mF.rfl'⟩
  · rw [e]; exact ⟨c.1, c.2, by omega, by omega, rfl, rfl, mF.rfl'⟩
  · rw [e]
    refine ⟨1, _, by decide, c_X7_placeOfClaim c.2 (hW.c a2 c.2).1, ?_⟩
    rintro _ _ ⟨rfl, rfl⟩
    exact ⟨_, rfl, rfl, rfl, mF.rfl'⟩
  · rw [e]
    refine ⟨4, _, by decide, c_X7_wouldGather hW c.1 c.2, ?_⟩
    rintro _ h1 ⟨rfl, e1, f1⟩
    exact ⟨_, rfl, rfl, e1, f1⟩
  · unfold qPart1
    rw [if_neg (by omega), if_neg (by omega), if_neg (by omega), if_neg (by omega), if_neg (by omega), if_neg (by omega)]
    exact ⟨rfl, rfl, mF.rfl'⟩
theorem qLoan1_4 {s : zs} {p : Int} : qLoan1 s p 4 = @ite _ (sCan s p) (Classical.propDecidable _) 1 0 := rfl
theorem c_X7_loan {B : Int} {h : zH} {a1 a2 : Int} (hW : WF B (h 129)) : zSp 3 mX7_loan [zR 128, zI a1, zI a2] h (fun q h' => q = some (zI (qLoan (h 129) a1 a2)) ∧ h = h') := by
  refine zSp_of (by decide +kernel) (Nat.le_of_ble_eq_true rfl) rfl (fun Γ => k_X7_loan_0  (by decide) ?_)
  have w := hW.n
  unfold WFn at w
  unfold qLoan
  refine ⟨2, _, by decide, c_X7_placeOf (by omega), ?_⟩
  rintro _ _ ⟨rfl, rfl⟩
  refine ⟨_, rfl, fun c => ?_, fun c => by rw [if_pos c]; exact ⟨rfl, rfl⟩⟩
  rw [if_neg c]
  have p := sPlace_ok c w.1
  have l := hW.l _ p.1 p.2
  refine ⟨fun c2 => ⟨fun c3 => ?_, fun c3 => ?_⟩, fun c2 => ?_⟩
  · rw [show a2 = 4 by omega, qLoan1_4]
    refine ⟨2, _, by decide, c_X7_canGive (by omega) l.2.2.1 l.2.2.2.1, ?_⟩
    rintro _ _ ⟨⟨x, rfl, hx⟩, rfl⟩
    refine ⟨_, rfl, fun c4 => ?_, fun c4 => ?_⟩
    · rcases hx with ⟨-, q⟩ | ⟨q, -⟩
      · rw [if_neg q]; exact ⟨rfl, rfl⟩
      · exact absurd c4 (by omega)
    · rcases hx with ⟨q, -⟩ | ⟨-, q⟩
      · exact absurd q c4
      · rw [if_pos q]; exact ⟨rfl, rfl⟩
  · rw [zwr_eq (by omega) (by omega)]
    refine ⟨by omega, by omega, by omega, by omega, ?_⟩
    rcases (show a2 = 0 ∨ a2 = 1 ∨ a2 = 2 ∨ a2 = 3 by omega) with e | e | e | e <;> rw [e] <;> exact ⟨rfl, rfl⟩
  · unfold qLoan1
    rw [if_neg (by omega), if_neg (by omega), if_neg (by omega), if_neg (by omega), if_neg (by omega)]
    exact ⟨rfl, rfl⟩
theorem c_X7_reason {B : Int} {h : zH} {a1 a2 : Int} (hW : WF B (h 129)) : zSp 5 mX7_reason [zR 128, zI a1, zI a2] h (fun q h' => q = some (zI (qReason (h 129) a1 a2)) ∧ h' 129 = h 129 ∧ mF h h') := by
  refine zSp_of (by decide +kernel) (Nat.le_of_ble_eq_true rfl) rfl (fun Γ => k_X7_reason_0  (by decide) ?_)
  unfold qReason
  refine ⟨fun c => ?_, fun c => by rw [if_neg c]; exact ⟨rfl, rfl, mF.rfl'⟩⟩
  rw [if_pos c]
  have hh : ∀ a : Int, 0 ≤ a → a ≤ 5 → 0 ≤ h 129 (36 + 6 * a2 + a).toNat ∧ h 129 (36 + 6 * a2 + a).toNat ≤ 1 := fun a a0 a5 => by
    have := (hW.h a a2 ⟨a0, a5⟩ c.2).2
    omega
  refine ⟨4, _, by decide, c_X7_wouldGather hW c.1 c.2, ?_⟩
  rintro _ h1 ⟨rfl, e1, f1⟩
  refine ⟨_, rfl, fun c2 => ?_, fun c2 => by rw [if_pos c2]; exact ⟨rfl, e1, f1⟩⟩
  rw [if_neg c2]
  refine ⟨2, _, by decide, c_X7_agentsOf c.2 (by rw [e1]; exact hh), ?_⟩
  rintro _ _ ⟨rfl, rfl⟩
  rw [e1]
  refine ⟨_, rfl, fun c3 => ?_, fun c3 => ?_⟩
  · rw [if_neg (by omega)]; exact ⟨rfl, rfl, f1⟩
  · rw [if_pos (by omega)]; exact ⟨rfl, rfl, f1⟩
theorem c_X7_sumOfCells_l {B : Int} {Post : Option zA → zH → Prop} {Γ : zCx} {h : zH} {w : Int} (hW : WF B (h 129)) (hw : w = 2 ∨ w = 3 ∨ w = 6) (hp : Post (some (zI (sSumC (h 129) w 6))) h) : ∀ n m : Nat, n + m = 6 → (fun (d : Nat) => zV RX7 cX7_sumOfCells 4 (some .int) d Post Γ 4 [(0, zR 128), (1, zI w), (2, zI (sSumC (h 129) w m)), (3, zI (m : Int))] [] h) 3 := by
  intro n
  induction n with
  | zero =>
    intro m hm
    refine k_X7_sumOfCells_4 (by decide) ⟨fun _ => ?_, fun z => absurd z (by omega)⟩
    rw [show 6 = m by omega] at hp
    exact hp
  | succ n ih =>
    intro m hm
    have i := sSumC_bd hW (w := w) m (by omega)
    have t := sTerm_bd hW (w := w) (c := (m : Int)) (by omega)
    have key := ih (m + 1) (by omega)
    unfold sSumC at key
    have hh : ∀ a : Int, 0 ≤ a → a ≤ 5 → 0 ≤ h 129 (36 + 6 * (m : Int) + a).toNat ∧ h 129 (36 + 6 * (m : Int) + a).toNat ≤ 1 := fun a a0 a5 => by
      have := (hW.h a (m : Int) ⟨a0, a5⟩ (by omega)).2
      omega
    refine k_X7_sumOfCells_4 (by decide) ⟨fun z => absurd z (by omega), fun _ => ⟨fun c => ⟨fun c2 => ?_, fun c2 => ?_⟩, fun c => ?_⟩⟩
    · have e : sTerm (h 129) w (m : Int) = sAg (h 129) (m : Int) 8 6 := by unfold sTerm; rw [if_neg c, if_neg c2]
      rw [e] at key t
      refine ⟨2, _, by decide, c_X7_agentsOf (by omega) hh, ?_⟩
      rintro _ _ ⟨rfl, rfl⟩
      refine ⟨_, rfl, ?_⟩
      intro y ey x ex
      rw [zstep ex (by omega), ey, zwr_eq (by omega) (by omega)]
      exact key
    · have e : sTerm (h 129) w (m : Int) = h 129 (108 + (m : Int)).toNat := by unfold sTerm; rw [if_neg c, if_pos c2]
      rw [e] at key t
      rw [zwr_eq (a := 108 + (m : Int)) (by omega) (by omega)]
      refine ⟨by omega, by omega, ?_⟩
      intro y ey x ex
      rw [zstep ex (by omega), ey, zwr_eq (by omega) (by omega)]
      exact key
    · refine ⟨2, _, by decide, c_X7_wholeOf (by omega), ?_⟩
      rintro _ _ ⟨rfl, rfl⟩
      refine ⟨_, rfl, fun c2 => ?_, fun c2 => ?_⟩
      · have e : sTerm (h 129) w (m : Int) = 1 := by unfold sTerm; rw [if_pos c, if_neg c2]
        rw [e] at key
        intro y ey x ex
        rw [zstep ex (by omega), ey, zwr_eq (by omega) (by omega)]
        exact key
      · have e : sTerm (h 129) w (m : Int) = 0 := by unfold sTerm; rw [if_pos c, if_pos c2]
        rw [e] at key
        intro y ey x ex
        rw [zstep ex (by omega), ey, zwr_eq (by omega) (by omega)]
        exact key
theorem c_X7_sumOfCells {B : Int} {h : zH} {w : Int} (hW : WF B (h 129)) (hw : w = 2 ∨ w = 3 ∨ w = 6) : zSp 3 mX7_sumOfCells [zR 128, zI w] h (fun q h' => q = some (zI (sSumC (h 129) w 6)) ∧ h = h') := by
  refine zSp_of (by decide +kernel) (Nat.le_of_ble_eq_true rfl) rfl (fun Γ => k_X7_sumOfCells_0  (by decide) ?_)
  exact c_X7_sumOfCells_l hW hw ⟨rfl, rfl⟩ 6 0 rfl
theorem c_X7_count {B : Int} {h : zH} {a1 : Int} (hW : WF B (h 129)) : zSp 4 mX7_count [zR 128, zI a1] h (fun q h' => q = some (zI (qCount (h 129) (h 128 4) (h 128 8) a1)) ∧ h = h') := by
  refine zSp_of (by decide +kernel) (Nat.le_of_ble_eq_true rfl) rfl (fun Γ => k_X7_count_0  (by decide) ?_)
  refine ⟨fun e => ?_, fun e => ?_, fun e => ?_, fun e => ?_, fun e => ?_, fun e => ?_, fun e => ?_, fun e => ?_, fun e => ?_, fun e => ?_⟩
  · rw [e]; exact ⟨rfl, rfl⟩
  · rw [e]; exact ⟨rfl, rfl⟩
  · rw [e]
    refine ⟨3, _, by decide, c_X7_sumOfCells hW (by decide), ?_⟩
    rintro _ _ ⟨rfl, rfl⟩
    exact ⟨_, rfl, rfl, rfl⟩
  · rw [e]
    refine ⟨3, _, by decide, c_X7_sumOfCells hW (by decide), ?_⟩
    rintro _ _ ⟨rfl, rfl⟩
    exact ⟨_, rfl, rfl, rfl⟩
  · rw [e]; exact ⟨rfl, rfl⟩
  · rw [e]; exact ⟨rfl, rfl⟩
  · rw [e]
    refine ⟨3, _, by decide, c_X7_sumOfCells hW (by decide), ?_⟩
    rintro _ _ ⟨rfl, rfl⟩
    exact ⟨_, rfl, rfl, rfl⟩
  · rw [e]; exact ⟨rfl, rfl⟩
  · rw [e]; exact ⟨rfl, rfl⟩
  · unfold qCount
    rw [if_neg (by omega), if_neg (by omega), if_neg (by omega), if_neg (by omega), if_neg (by omega), if_neg (by omega), if_neg (by omega), if_neg (by omega), if_neg (by omega)]
    exact ⟨rfl, rfl⟩
