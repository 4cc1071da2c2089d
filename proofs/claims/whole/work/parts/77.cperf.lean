/-! perform, the class's -/
def tA (T : zs) (len : Nat) : Nat → zs := fun k => oTold T len (zz T len k)
theorem okP_acts {T : zs} {len m : Nat} (hl : len ≤ 60) (h : okP T len m) : m ≤ 21 ∧ 1 ≤ m ∧ ∀ i : Nat, i < m → (ze T len i).1 = false ∧ tOK (tA T len i) := by
  obtain ⟨k, rfl, hg, he, hle⟩ := h
  have := zz_20 hl (gd_zz hg)
  refine ⟨by omega, by omega, fun i hi => ?_⟩
  have e : (ze T len i).1 = false := by
    by_cases q : i = k
    · rw [q]; exact he
    · exact (hg i (by omega)).1
  exact ⟨e, tOK_zz e⟩
theorem runF_uniq {s : zs} {A : Nat → zs} {m k k' : Nat} {e e' : Int} (h : runF s A m k e) (h' : runF s A m k' e') : k = k' ∧ e = e' := by
  have a : ¬ k < k' := fun q => by
    have := h'.2.1 k q
    rw [h.2.2.1] at this
    have := h.2.2.2
    omega
  have b : ¬ k' < k := fun q => by
    have := h.2.1 k' q
    rw [h'.2.2.1] at this
    have := h'.2.2.2
    omega
  have c : k = k' := by omega
  refine ⟨c, ?_⟩
  rw [← h.2.2.1, ← h'.2.2.1, c]
def zFb (h h' : zH) : Prop := (∀ k : Nat, ((31 ≤ k ∧ k < 46) ∨ k = 126 ∨ 128 ≤ k) → h' k = h k) ∧ h' 125 1 = h 125 1
def cPerf (B : Int) (s : zs) (n : Nat) (H : Nat → zs) (T : zs) (len : Nat) (h : zH) (x : Int) (h' : zH) : Prop := zFb h h' ∧ ((∃ qf : Nat, fltP T len qf ∧ qf ≤ 60 ∧ x = -100 - (qf : Int) ∧ CInv B s n H h' ∧ h' 0 = h 0) ∨ ∃ m : Nat, okP T len m ∧ ((runO s (tA T len) m ∧ x = (m : Int) ∧ CInv (B + 100) (rS s (tA T len) m) (pushN n) (pushH n H s) h' ∧ h' 0 = h 0) ∨ ∃ (k : Nat) (e : Int), runF s (tA T len) m k e ∧ x = -4 ∧ CInv B s n H h' ∧ h' 0 7 = 1 ∧ h' 0 8 = (k : Int) ∧ h' 0 9 = e ∧ ∀ i : Nat, i ≠ 7 → i ≠ 8 → i ≠ 9 → h' 0 i = h 0 i))
theorem c_X6_perform {B : Int} {s : zs} {n : Nat} {H : Nat → zs} {T : zs} {len : Nat} {h : zH} (c : CInv B s n H h) (hB : B ≤ 90000) (t : cTx T len h) : zSp 21 mX6_perform [zR 0] h (fun q h' => ∃ x : Int, q = some (zI x) ∧ cPerf B s n H T len h x h') := by
  refine zSp_of (by decide +kernel) (Nat.le_of_ble_eq_true rfl) rfl (fun Γ => k_X6_perform_0  (by decide) ?_)
  refine ⟨8, _, by decide, c_X5_findFault t, ?_⟩
  rintro _ h1 ⟨x, rfl, f1, o1⟩
  have c1 : CInv B s n H h1 := CInv_fr c (fun k hk => f1.1 k (by omega) (by omega))
  refine ⟨x, rfl, fun q => ?_, fun q => ?_⟩
  · rcases o1 with ⟨m, hm, -, e4, hS⟩ | ⟨qf, -, e, -⟩
    rotate_left
    · exact absurd q (by omega)
    obtain ⟨m21, m1, ha⟩ := okP_acts t.2.1 hm
    obtain ⟨q1, q2, q3, q4, q5, q6⟩ := id c1
    have go : ∃ o : Nat, o < 5 ∧ h1 46 1 = (o : Int) := ⟨(h1 46 1).toNat, by omega, by omega⟩
    obtain ⟨o, o5, ho⟩ := go
    refine ⟨3, _, by decide, c_X2_open q1 q2 q3, ?_⟩
    rintro _ h2 ⟨rfl, r2, f2⟩
    rw [ho, Int.toNat_natCast] at r2 f2
    refine ⟨rfl, ?_⟩
    have hS2 : ∀ i : Nat, i < m → cSl (5 * i) (tA T len i) h2 := fun i hi => by
      have := hS i hi
      unfold cSl cArg at this ⊢
      rw [f2 127 (by omega)]
      exact this
    have e4' : h2 125 4 = (m : Int) := by rw [f2 125 (by omega)]; exact e4
    refine c_X6_perform_l (h0 := h2) (A := tA T len) (m := m) c.2.1 hB m21 (fun i hi => (ha i hi).2) e4' hS2 (fun hr h' rr ff => ?_) (fun kf ef hr h' fp e7 e8 e9 => ?_) m 0 rfl h2 (Rep_congr q1 (fun k _ _ => f2 k (by omega))) (fun _ _ _ => rfl) (fun j hj => absurd hj (Nat.not_lt_zero _))
    · refine act_close (B' := B + 100) (s' := rS s (tA T len) m) c1 ho o5 (by omega) (fun _ => WF_up (WF_rS c.2.1 hB m (by omega)) (by omega)) r2 f2 (fun _ => rr) (fun k hk => ff k (by omega) (by omega)) (fun h3 f3 w1 w2 => ?_)
      refine ⟨_, rfl, ⟨fun k hk => ?_, ?_⟩, Or.inr ⟨m, hm, Or.inl ⟨hr, rfl, w2 (by omega), ?_⟩⟩⟩
      · rw [f3 k (by omega), ff k (by omega) (by omega), f2 k (by omega), f1.1 k (by omega) (by omega)]
      · rw [f3 125 (by decide), ff 125 (by decide) (by decide), f2 125 (by omega), f1.2 1 (by decide) (by decide)]
      · rw [f3 0 (by decide), ff 0 (by decide) (by decide), f2 0 (by omega), f1.1 0 (by decide) (by decide)]
    · refine act_close (B' := B) (s' := s) c1 ho o5 (Int.le_refl _) (fun z => absurd z (by decide)) r2 f2 (fun z => absurd z (by decide)) (fun k hk => fp.1 k (by omega) (by omega) (by omega)) (fun h3 f3 w1 w2 => ?_)
      refine ⟨_, rfl, ⟨fun k hk => ?_, ?_⟩, Or.inr ⟨m, hm, Or.inr ⟨kf, ef, hr, rfl, w1 (by decide), ?_, ?_, ?_, fun i i1 i2 i3 => ?_⟩⟩⟩
      · rw [f3 k (by omega), fp.1 k (by omega) (by omega) (by omega), f2 k (by omega), f1.1 k (by omega) (by omega)]
      · rw [f3 125 (by decide), fp.1 125 (by decide) (by decide) (by decide), f2 125 (by omega), f1.2 1 (by decide) (by decide)]
      · rw [f3 0 (by decide)]; exact e7
      · rw [f3 0 (by decide)]; exact e8
      · rw [f3 0 (by decide)]; exact e9
      · rw [f3 0 (by decide), fp.2 i i1 i2 i3, f2 0 (by omega), f1.1 0 (by decide) (by decide)]
  · rcases o1 with ⟨m, -, e, -⟩ | ⟨qf, hq, e, l⟩
    · exact absurd q (by omega)
    · rw [zwr_eq (by omega) (by omega)]
      exact ⟨_, rfl, ⟨fun k hk => f1.1 k (by omega) (by omega), f1.2 1 (by decide) (by decide)⟩, Or.inl ⟨qf, hq, l, by omega, c1, f1.1 0 (by decide) (by decide)⟩⟩
theorem c_X6_type {T : zs} {len : Nat} {h : zH} {a : Int} (t : h 125 1 = (len : Int)) (l60 : len ≤ 60) : zSp 2 mX6_type [zR 0, zI a] h (fun q h' => (len = 60 ∧ q = some (zI (-3)) ∧ h' = h) ∨ (len < 60 ∧ q = some (zI ((len + 1 : Nat) : Int)) ∧ h' = zu (zu h 126 len a) 125 1 ((len + 1 : Nat) : Int))) := by
  have key : zSp 1 mX5_append [zR 125, zI a] h (fun q h' => (len = 60 ∧ q = some (zI (-3)) ∧ h' = h) ∨ (len < 60 ∧ q = some (zI ((len + 1 : Nat) : Int)) ∧ h' = zu (zu h 126 len a) 125 1 ((len + 1 : Nat) : Int))) := by
    refine zSp_of (by decide +kernel) (Nat.le_of_ble_eq_true rfl) rfl (fun Γ => k_X5_append_0  (by decide) ?_)
    refine ⟨fun c => ⟨by omega, by omega, ?_⟩, fun c => Or.inl ⟨by omega, rfl, rfl⟩⟩
    rintro _ rfl
    rintro _ rfl
    rw [t, zu_nek (k := 126) (k' := 125) _ _ _ _ (by decide), t, zwr_eq (by omega) (by omega), zu_same, Int.toNat_natCast]
    exact Or.inr ⟨by omega, rfl, rfl⟩
  refine zSp_of (by decide +kernel) (Nat.le_of_ble_eq_true rfl) rfl (fun Γ => k_X6_type_0  (by decide) ?_)
  refine ⟨1, _, by decide, key, ?_⟩
  rintro _ h1 (⟨a1, rfl, a2⟩ | ⟨a1, rfl, a2⟩)
  · exact ⟨_, rfl, Or.inl ⟨a1, rfl, a2⟩⟩
  · exact ⟨_, rfl, Or.inr ⟨a1, rfl, a2⟩⟩
theorem c_X6_clearText {h : zH} : zSp 2 mX6_clearText [zR 0] h (fun q h' => q = some (zI (h 125 1)) ∧ h' = zu h 125 1 0) := by
  have key : zSp 1 mX5_empty [zR 125] h (fun q h' => q = some (zI (h 125 1)) ∧ h' = zu h 125 1 0) := by
    refine zSp_of (by decide +kernel) (Nat.le_of_ble_eq_true rfl) rfl (fun Γ => k_X5_empty_0  (by decide) ?_)
    rintro _ rfl
    rintro _ rfl
    exact ⟨rfl, rfl⟩
  refine zSp_of (by decide +kernel) (Nat.le_of_ble_eq_true rfl) rfl (fun Γ => k_X6_clearText_0  (by decide) ?_)
  refine ⟨1, _, by decide, key, ?_⟩
  rintro _ h1 ⟨rfl, a⟩
  exact ⟨_, rfl, rfl, a⟩
theorem c_X6_stop {h : zH} {a1 : Int} : zSp 1 mX6_stop [zR 0, zI a1] h (fun q h' => q = some (zI (if 0 ≤ a1 ∧ a1 ≤ 1 then (if h 0 7 = 0 then -5 else if a1 = 0 then h 0 8 else h 0 9) else -2)) ∧ h = h') := by
  refine zSp_of (by decide +kernel) (Nat.le_of_ble_eq_true rfl) rfl (fun Γ => k_X6_stop_0  (by decide) ?_)
  refine ⟨fun c => ?_, fun c => ⟨fun c2 => ⟨fun c3 => ⟨fun c4 => ?_, fun c4 => ?_⟩, fun c3 => ?_⟩, fun c2 => ?_⟩⟩
  · rw [if_neg (by omega)]; exact ⟨rfl, rfl⟩
  · rw [if_pos (by omega), if_neg c3, if_neg c4]; exact ⟨rfl, rfl⟩
  · rw [if_pos (by omega), if_neg c3, if_pos c4]; exact ⟨rfl, rfl⟩
  · rw [if_pos (by omega), if_pos c3]; exact ⟨rfl, rfl⟩
  · rw [if_neg (by omega)]; exact ⟨rfl, rfl⟩
