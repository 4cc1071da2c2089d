/-! perform, the class's -/
def tA (T : zs) (len : Nat) : Nat → zs := fun k => oTold T len (zz T len k)
theorem okP_acts {T : zs} {len m : Nat} (hl : len ≤ 60) (h : okP T len m) : m ≤ 21 ∧ 1 ≤ m ∧ ∀ i : Nat, i < m → (ze T len i).1 = false ∧ tOK (tA T len i) := by
  obtain ⟨k, rfl, hg, he, hle⟩ := h
  have := zz_20 hl (gd_zz hg)
  refine ⟨by omega, by omega, fun i hi => ?_⟩
  have e : (ze T len i).1 = false := by
    by_cases q : i = k
    · rw [q]; exact he
    · exact (hg i (by omega)).1
  exact ⟨e, tOK_zz e⟩
theorem c_X6_performActs_ok {B : Int} {s : zs} {A : Nat → zs} {m : Nat} {h h1 : zH} (hW : WF B s) (hB : B ≤ 90000) (m21 : m ≤ 21) (hT : ∀ i : Nat, i < m → tOK (A i)) (h4 : h 125 4 = (m : Int)) (hS : ∀ i : Nat, i < m → cSl (5 * i) (A i) h) (r : Rep s h1 1) (hf : ∀ k : Nat, (k < 48 ∨ 123 ≤ k) → h1 k = h k) (ho : runO s A m) : zSp 20 mX6_performActs [zR 0] h1 (fun q h' => q = some (zI (m : Int)) ∧ (0 ≤ (m : Int) → Rep (rS s A m) h' 1) ∧ (∀ k : Nat, (k = 46 ∨ (48 ≤ k ∧ k < 123)) → h' k = h1 k) ∧ ∀ k : Nat, (k = 0 ∨ (16 ≤ k ∧ k < 46) ∨ 125 ≤ k) → h' k = h k) := by
  refine zSp_of (by decide +kernel) (Nat.le_of_ble_eq_true rfl) rfl (fun Γ => k_X6_performActs_0  (by decide) ?_)
  refine c_X6_performActs_l (h0 := h1) (A := A) (m := m) hW hB m21 hT (by rw [hf 125 (by decide)]; exact h4) (fun i hi => ?_) (fun _ h' rr ff => ⟨rfl, fun _ => rr, fun k hk => ff k (by omega) (by omega), fun k hk => ?_⟩) (fun k e q => absurd ho (runF_no q)) m 0 rfl h1 r (fun _ _ _ => rfl) (fun j hj => absurd hj (Nat.not_lt_zero _))
  · have := hS i hi
    unfold cSl cArg at this ⊢
    rw [hf 127 (by decide)]
    exact this
  · rw [ff k (by omega) (by omega)]; exact hf k (by omega)
theorem runF_uniq {s : zs} {A : Nat → zs} {m k k' : Nat} {e e' : Int} (h : runF s A m k e) (h' : runF s A m k' e') : k = k' ∧ e = e' := by
  have a : ¬ k < k' := fun q => by
    have := h'.2.1 k q
    rw [h.2.2.1] at this
    have := h.2.2.2
    omega
  have b : ¬ k' < k := fun q => by
    have := h.2.1 k' q
    rw [h'.2.2.1] at this
    have := h'.2.2.2
    omega
  have c : k = k' := by omega
  refine ⟨c, ?_⟩
  rw [← h.2.2.1, ← h'.2.2.1, c]
theorem c_X6_performActs_bad {B : Int} {s : zs} {A : Nat → zs} {m kf : Nat} {ef : Int} {h h1 : zH} (hW : WF B s) (hB : B ≤ 90000) (m21 : m ≤ 21) (hT : ∀ i : Nat, i < m → tOK (A i)) (h4 : h 125 4 = (m : Int)) (hS : ∀ i : Nat, i < m → cSl (5 * i) (A i) h) (r : Rep s h1 1) (hf : ∀ k : Nat, (k < 48 ∨ 123 ≤ k) → h1 k = h k) (ho : runF s A m kf ef) : zSp 20 mX6_performActs [zR 0] h1 (fun q h' => q = some (zI (-4)) ∧ (0 ≤ (-4 : Int) → Rep s h' 1) ∧ (∀ k : Nat, (k = 46 ∨ (48 ≤ k ∧ k < 123)) → h' k = h1 k) ∧ ((∀ k : Nat, ((16 ≤ k ∧ k < 46) ∨ 125 ≤ k) → h' k = h k) ∧ h' 0 7 = 1 ∧ h' 0 8 = (kf : Int) ∧ h' 0 9 = ef ∧ ∀ i : Nat, i ≠ 7 → i ≠ 8 → i ≠ 9 → h' 0 i = h 0 i)) := by
  refine zSp_of (by decide +kernel) (Nat.le_of_ble_eq_true rfl) rfl (fun Γ => k_X6_performActs_0  (by decide) ?_)
  refine c_X6_performActs_l (h0 := h1) (A := A) (m := m) hW hB m21 hT (by rw [hf 125 (by decide)]; exact h4) (fun i hi => ?_) (fun q => absurd q (runF_no ho)) (fun k e q h' fp e7 e8 e9 => ?_) m 0 rfl h1 r (fun _ _ _ => rfl) (fun j hj => absurd hj (Nat.not_lt_zero _))
  · have := hS i hi
    unfold cSl cArg at this ⊢
    rw [hf 127 (by decide)]
    exact this
  · obtain ⟨ek, ee⟩ := runF_uniq ho q
    refine ⟨rfl, fun z => absurd z (by decide), fun k hk => fp.1 k (by omega) (by omega) (by omega), fun k hk => ?_, e7, by rw [e8, ek], by rw [e9, ee], fun i i1 i2 i3 => ?_⟩
    · rw [fp.1 k (by omega) (by omega) (by omega)]; exact hf k (by omega)
    · rw [fp.2 i i1 i2 i3, hf 0 (by decide)]
def zFb (h h' : zH) : Prop := (∀ k : Nat, ((31 ≤ k ∧ k < 46) ∨ k = 126 ∨ 128 ≤ k) → h' k = h k) ∧ h' 125 1 = h 125 1
def cPerf (B : Int) (s : zs) (n : Nat) (H : Nat → zs) (T : zs) (len : Nat) (h : zH) (x : Int) (h' : zH) : Prop := zFb h h' ∧ ((∃ qf : Nat, fltP T len qf ∧ qf ≤ 60 ∧ x = -100 - (qf : Int) ∧ CInv B s n H h' ∧ h' 0 = h 0) ∨ ∃ m : Nat, okP T len m ∧ ((runO s (tA T len) m ∧ x = (m : Int) ∧ CInv (B + 100) (rS s (tA T len) m) (pushN n) (pushH n H s) h' ∧ h' 0 = h 0) ∨ ∃ (k : Nat) (e : Int), runF s (tA T len) m k e ∧ x = -4 ∧ CInv B s n H h' ∧ h' 0 7 = 1 ∧ h' 0 8 = (k : Int) ∧ h' 0 9 = e ∧ ∀ i : Nat, i ≠ 7 → i ≠ 8 → i ≠ 9 → h' 0 i = h 0 i))
theorem c_X6_perform {B : Int} {s : zs} {n : Nat} {H : Nat → zs} {T : zs} {len : Nat} {h : zH} (c : CInv B s n H h) (hB : B ≤ 90000) (t : cTx T len h) : zSp 21 mX6_perform [zR 0] h (fun q h' => ∃ x : Int, q = some (zI x) ∧ cPerf B s n H T len h x h') := by
  refine zSp_of (by decide +kernel) (Nat.le_of_ble_eq_true rfl) rfl (fun Γ => k_X6_perform_0  (by decide) ?_)
  refine ⟨8, _, by decide, c_X5_findFault t, ?_⟩
  rintro _ h1 ⟨x, rfl, f1, o1⟩
  have c1 : CInv B s n H h1 := CInv_fr c (fun k hk => f1.1 k (by omega) (by omega))
  refine ⟨x, rfl, fun q => ?_, fun q => ?_⟩
  · rcases o1 with ⟨m, hm, -, e4, hS⟩ | ⟨qf, -, e, -⟩
    rotate_left
    · exact absurd q (by omega)
    obtain ⟨m21, m1, ha⟩ := okP_acts t.2.1 hm
    rcases run_or s (tA T len) m with ho | ⟨kf, ef, ho⟩
    · refine act_wrap (Post := fun q h' => ∃ x : Int, q = some (zI x) ∧ cPerf B s n H T len h x h') (B' := B + 100) (a := (m : Int)) (s' := rS s (tA T len) m) (X := fun h' => ∀ k : Nat, (k = 0 ∨ (16 ≤ k ∧ k < 46) ∨ 125 ≤ k) → h' k = h1 k) c1 (by decide) (by omega) (fun _ => WF_up (WF_rS c.2.1 hB m (by omega)) (by omega)) (fun h2 r2 f2 => c_X6_performActs_ok c.2.1 hB m21 (fun i hi => (ha i hi).2) e4 hS r2 f2 ho) ?_
      intro h2 h3 x2 f3 w1 w2
      refine ⟨_, rfl, ⟨fun k hk => ?_, ?_⟩, Or.inr ⟨m, hm, Or.inl ⟨ho, rfl, w2 (by omega), ?_⟩⟩⟩
      · rw [f3 k (by omega), x2 k (by omega), f1.1 k (by omega) (by omega)]
      · rw [f3 125 (by decide), x2 125 (by decide), f1.2 1 (by decide) (by decide)]
      · rw [f3 0 (by decide), x2 0 (by decide), f1.1 0 (by decide) (by decide)]
    · refine act_wrap (Post := fun q h' => ∃ x : Int, q = some (zI x) ∧ cPerf B s n H T len h x h') (B' := B) (a := -4) (s' := s) (X := fun h' => (∀ k : Nat, ((16 ≤ k ∧ k < 46) ∨ 125 ≤ k) → h' k = h1 k) ∧ h' 0 7 = 1 ∧ h' 0 8 = (kf : Int) ∧ h' 0 9 = ef ∧ ∀ i : Nat, i ≠ 7 → i ≠ 8 → i ≠ 9 → h' 0 i = h1 0 i) c1 (by decide) (Int.le_refl _) (fun z => absurd z (by decide)) (fun h2 r2 f2 => c_X6_performActs_bad c.2.1 hB m21 (fun i hi => (ha i hi).2) e4 hS r2 f2 ho) ?_
      intro h2 h3 x2 f3 w1 w2
      obtain ⟨x2, x7, x8, x9, x0⟩ := x2
      refine ⟨_, rfl, ⟨fun k hk => ?_, ?_⟩, Or.inr ⟨m, hm, Or.inr ⟨kf, ef, ho, rfl, w1 (by decide), ?_, ?_, ?_, fun i i1 i2 i3 => ?_⟩⟩⟩
      · rw [f3 k (by omega), x2 k (by omega), f1.1 k (by omega) (by omega)]
      · rw [f3 125 (by decide), x2 125 (by decide), f1.2 1 (by decide) (by decide)]
      · rw [f3 0 (by decide)]; exact x7
      · rw [f3 0 (by decide)]; exact x8
      · rw [f3 0 (by decide)]; exact x9
      · rw [f3 0 (by decide), x0 i i1 i2 i3, f1.1 0 (by decide) (by decide)]
  · rcases o1 with ⟨m, -, e, -⟩ | ⟨qf, hq, e, l⟩
    · exact absurd q (by omega)
    · rw [zwr_eq (by omega) (by omega)]
      exact ⟨_, rfl, ⟨fun k hk => f1.1 k (by omega) (by omega), f1.2 1 (by decide) (by decide)⟩, Or.inl ⟨qf, hq, l, by omega, c1, f1.1 0 (by decide) (by decide)⟩⟩
theorem c_X6_type {T : zs} {len : Nat} {h : zH} {a : Int} (t : h 125 1 = (len : Int)) (l60 : len ≤ 60) : zSp 2 mX6_type [zR 0, zI a] h (fun q h' => (len = 60 ∧ q = some (zI (-3)) ∧ h' = h) ∨ (len < 60 ∧ q = some (zI ((len + 1 : Nat) : Int)) ∧ h' = zu (zu h 126 len a) 125 1 ((len + 1 : Nat) : Int))) := by
  have key : zSp 1 mX5_append [zR 125, zI a] h (fun q h' => (len = 60 ∧ q = some (zI (-3)) ∧ h' = h) ∨ (len < 60 ∧ q = some (zI ((len + 1 : Nat) : Int)) ∧ h' = zu (zu h 126 len a) 125 1 ((len + 1 : Nat) : Int))) := by
    refine zSp_of (by decide +kernel) (Nat.le_of_ble_eq_true rfl) rfl (fun Γ => k_X5_append_0  (by decide) ?_)
    refine ⟨fun c => ⟨by omega, by omega, ?_⟩, fun c => Or.inl ⟨by omega, rfl, rfl⟩⟩
    rintro _ rfl
    rintro _ rfl
    rw [t, zu_nek (k := 126) (k' := 125) _ _ _ _ (by decide), t, zwr_eq (by omega) (by omega), zu_same, Int.toNat_natCast]
    exact Or.inr ⟨by omega, rfl, rfl⟩
  refine zSp_of (by decide +kernel) (Nat.le_of_ble_eq_true rfl) rfl (fun Γ => k_X6_type_0  (by decide) ?_)
  refine ⟨1, _, by decide, key, ?_⟩
  rintro _ h1 (⟨a1, rfl, a2⟩ | ⟨a1, rfl, a2⟩)
  · exact ⟨_, rfl, Or.inl ⟨a1, rfl, a2⟩⟩
  · exact ⟨_, rfl, Or.inr ⟨a1, rfl, a2⟩⟩
theorem c_X6_clearText {h : zH} : zSp 2 mX6_clearText [zR 0] h (fun q h' => q = some (zI (h 125 1)) ∧ h' = zu h 125 1 0) := by
  have key : zSp 1 mX5_empty [zR 125] h (fun q h' => q = some (zI (h 125 1)) ∧ h' = zu h 125 1 0) := by
    refine zSp_of (by decide +kernel) (Nat.le_of_ble_eq_true rfl) rfl (fun Γ => k_X5_empty_0  (by decide) ?_)
    rintro _ rfl
    rintro _ rfl
    exact ⟨rfl, rfl⟩
  refine zSp_of (by decide +kernel) (Nat.le_of_ble_eq_true rfl) rfl (fun Γ => k_X6_clearText_0  (by decide) ?_)
  refine ⟨1, _, by decide, key, ?_⟩
  rintro _ h1 ⟨rfl, a⟩
  exact ⟨_, rfl, rfl, a⟩
theorem c_X6_stop {h : zH} {a1 : Int} : zSp 1 mX6_stop [zR 0, zI a1] h (fun q h' => q = some (zI (if 0 ≤ a1 ∧ a1 ≤ 1 then (if h 0 7 = 0 then -5 else if a1 = 0 then h 0 8 else h 0 9) else -2)) ∧ h = h') := by
  refine zSp_of (by decide +kernel) (Nat.le_of_ble_eq_true rfl) rfl (fun Γ => k_X6_stop_0  (by decide) ?_)
  refine ⟨fun c => ?_, fun c => ⟨fun c2 => ⟨fun c3 => ⟨fun c4 => ?_, fun c4 => ?_⟩, fun c3 => ?_⟩, fun c2 => ?_⟩⟩
  · rw [if_neg (by omega)]; exact ⟨rfl, rfl⟩
  · rw [if_pos (by omega), if_neg c3, if_neg c4]; exact ⟨rfl, rfl⟩
  · rw [if_pos (by omega), if_neg c3, if_pos c4]; exact ⟨rfl, rfl⟩
  · rw [if_pos (by omega), if_pos c3]; exact ⟨rfl, rfl⟩
  · rw [if_neg (by omega)]; exact ⟨rfl, rfl⟩
