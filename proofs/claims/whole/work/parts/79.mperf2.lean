/-! perform, the reference's: the whole -/
theorem okP_k {T : zs} {len m : Nat} (h : okP T len m) : ∃ k : Nat, m = k + 1 ∧ (∀ j : Nat, j < k → gd T len j) ∧ ¬ gd T len k ∧ (ze T len k).1 = false ∧ len ≤ (ze T len k).2 := by
  obtain ⟨k, a, b, c, d⟩ := h
  exact ⟨k, a, b, fun w => by have := w.2.1; omega, c, d⟩
theorem fltP_k {T : zs} {len q : Nat} (h : fltP T len q) : ∃ k : Nat, (∀ j : Nat, j < k → gd T len j) ∧ ¬ gd T len k ∧ q = (ze T len k).2 ∧ ((ze T len k).1 = true ∨ (ze T len k).2 < len) := by
  obtain ⟨k, a, b, c⟩ := h
  refine ⟨k, a, fun w => ?_, b, ?_⟩
  · rcases c with c | c
    · have := w.1; rw [c] at this; cases this
    · have := w.2.2; rw [c.2.2] at this; cases this
  · rcases c with c | c
    · exact Or.inl c
    · exact Or.inr c.2.1
theorem okP_uniq {T : zs} {len m m' : Nat} (h : okP T len m) (h' : okP T len m') : m = m' := by
  obtain ⟨k, a, b, c, d⟩ := okP_k h
  obtain ⟨k', a', b', c', d'⟩ := okP_k h'
  have := gd_uniq b c b' c'
  omega
theorem okP_flt {T : zs} {len m q : Nat} (h : okP T len m) (h' : fltP T len q) : False := by
  obtain ⟨k, a, b, c, d, e⟩ := okP_k h
  obtain ⟨k', b', c', d', e'⟩ := fltP_k h'
  have ek := gd_uniq b c b' c'
  rw [← ek] at e'
  rcases e' with e' | e'
  · rw [d] at e'; cases e'
  · omega
theorem fltP_uniq {T : zs} {len q q' : Nat} (h : fltP T len q) (h' : fltP T len q') : q = q' := by
  obtain ⟨k, b, c, d, e⟩ := fltP_k h
  obtain ⟨k', b', c', d', e'⟩ := fltP_k h'
  have ek := gd_uniq b c b' c'
  rw [d, d', ek]
theorem go_start {h : zH} : mGo h (zu (zu (zu h 128 15 0) 128 16 0) 128 18 0) := ⟨fun k k1 _ _ _ _ _ => by rw [zu_nekr _ _ _ k1, zu_nekr _ _ _ k1, zu_nekr _ _ _ k1], fun i _ i2 i3 i4 => by rw [zu_nej _ _ _ i4, zu_nej _ _ _ i3, zu_nej _ _ _ i2]⟩
theorem go_z {T : zs} {len : Nat} {h : zH} : mZ (zz T len 0) (zu (zu (zu h 128 15 0) 128 16 0) 128 18 0) := by
  refine ⟨?_, ?_, Nat.zero_le _⟩
  · rw [zu_nej _ _ _ (by decide), zu_nej _ _ _ (by decide), zu_same]; rfl
  · rw [zu_nej _ _ _ (by decide), zu_same]; rfl
theorem go_129 {h : zH} : (zu (zu (zu h 128 15 0) 128 16 0) 128 18 0) 129 = h 129 := by rw [zu_nekr _ _ _ (by decide), zu_nekr _ _ _ (by decide), zu_nekr _ _ _ (by decide)]
theorem c_X7_go_ok {T : zs} {len m : Nat} {h : zH} (t : mT T len h) (hm : okP T len m) : zSp 6 mX7_go [zR 128, zI 0] h (fun q h' => q = some (zI (m : Int)) ∧ h' 128 16 = 0 ∧ mGo h h' ∧ h' 129 = h 129) := by
  refine zSp_of (by decide +kernel) (Nat.le_of_ble_eq_true rfl) rfl (fun Γ => k_X7_go_0  (by decide) ?_)
  rintro _ rfl
  rintro _ rfl
  rintro _ rfl
  refine c_X7_go_f_l (T := T) (len := len) (h0 := h) (fun m' hm' h' a b c => ⟨by rw [okP_uniq hm hm'], a, b, c⟩) (fun q hq x h' _ _ _ _ => (okP_flt hm hq).elim) 21 0 _ rfl (mT_go t go_start) go_start go_129 (fun j hj => absurd hj (Nat.not_lt_zero _)) go_z
theorem c_X7_go_flt {T : zs} {len qf : Nat} {h : zH} (t : mT T len h) (hq : fltP T len qf) : zSp 6 mX7_go [zR 128, zI 0] h (fun q h' => ∃ x : Int, q = some (zI x) ∧ ¬ h' 128 16 = 0 ∧ h' 128 15 = (qf : Int) ∧ mGo h h' ∧ h' 129 = h 129) := by
  refine zSp_of (by decide +kernel) (Nat.le_of_ble_eq_true rfl) rfl (fun Γ => k_X7_go_0  (by decide) ?_)
  rintro _ rfl
  rintro _ rfl
  rintro _ rfl
  refine c_X7_go_f_l (T := T) (len := len) (h0 := h) (fun m' hm' h' a b c => (okP_flt hm' hq).elim) (fun q hq' x h' a b c d => ⟨x, rfl, a, by rw [b, fltP_uniq hq hq'], c, d⟩) 21 0 _ rfl (mT_go t go_start) go_start go_129 (fun j hj => absurd hj (Nat.not_lt_zero _)) go_z
theorem c_X7_go_run {B : Int} {T : zs} {len m : Nat} {h : zH} (t : mT T len h) (hm : okP T len m) (hW : WF B (h 129)) (hB : B ≤ 90000) (ho : runO (h 129) (tA T len) m) : zSp 6 mX7_go [zR 128, zI 1] h (fun q h' => q = some (zI (m : Int)) ∧ h' 128 18 = 0 ∧ mGo h h' ∧ h' 129 = rS (h 129) (tA T len) m) := by
  refine zSp_of (by decide +kernel) (Nat.le_of_ble_eq_true rfl) rfl (fun Γ => k_X7_go_0  (by decide) ?_)
  rintro _ rfl
  rintro _ rfl
  rintro _ rfl
  have m1 := (okP_acts t.2.1 hm).2.1
  refine c_X7_go_t_l (T := T) (len := len) (h0 := h) hW hB hm (fun _ h' a b c => ⟨rfl, a, b, c⟩) (fun k e q => absurd ho (runF_no q)) m 0 _ rfl (by omega) (mT_go t go_start) go_start go_129 (fun j hj => absurd hj (Nat.not_lt_zero _)) (fun j hj => absurd hj (Nat.not_lt_zero _)) go_z
theorem c_X7_go_stop {B : Int} {T : zs} {len m kf : Nat} {ef : Int} {h : zH} (t : mT T len h) (hm : okP T len m) (hW : WF B (h 129)) (hB : B ≤ 90000) (ho : runF (h 129) (tA T len) m kf ef) : zSp 6 mX7_go [zR 128, zI 1] h (fun q h' => q = some (zI (kf : Int)) ∧ h' 128 18 = ef ∧ mGo h h' ∧ WFz (h' 129)) := by
  refine zSp_of (by decide +kernel) (Nat.le_of_ble_eq_true rfl) rfl (fun Γ => k_X7_go_0  (by decide) ?_)
  rintro _ rfl
  rintro _ rfl
  rintro _ rfl
  have m1 := (okP_acts t.2.1 hm).2.1
  refine c_X7_go_t_l (T := T) (len := len) (h0 := h) hW hB hm (fun q => absurd q (runF_no ho)) (fun k e q h' a b c => ?_) m 0 _ rfl (by omega) (mT_go t go_start) go_start go_129 (fun j hj => absurd hj (Nat.not_lt_zero _)) (fun j hj => absurd hj (Nat.not_lt_zero _)) go_z
  obtain ⟨ek, ee⟩ := runF_uniq ho q
  exact ⟨by rw [ek], by rw [a, ee], b, c⟩
theorem mT_m {T : zs} {len : Nat} {h h' : zH} (t : mT T len h) (f : mF h h') : mT T len h' := ⟨by rw [f.2 8 (by decide) (by decide) (by decide) (by decide)]; exact t.1, t.2.1, fun j hj => by rw [f.1 134 (by decide)]; exact t.2.2.1 j hj, t.2.2.2⟩
theorem mT_g {T : zs} {len : Nat} {h h' : zH} (t : mT T len h) (f : mG h h') : mT T len h' := ⟨by rw [f.2 8 (by decide) (by decide) (by decide) (by decide) (by decide)]; exact t.1, t.2.1, fun j hj => by rw [f.1 134 (by decide)]; exact t.2.2.1 j hj, t.2.2.2⟩
theorem c_X7_perform_flt {T : zs} {len qf : Nat} {h : zH} (t : mT T len h) (hq : fltP T len qf) (q60 : qf ≤ 60) : zSp 7 mX7_perform [zR 128] h (fun q h' => q = some (zI (-100 - (qf : Int))) ∧ h' 129 = h 129 ∧ mF h h') := by
  refine zSp_of (by decide +kernel) (Nat.le_of_ble_eq_true rfl) rfl (fun Γ => k_X7_perform_0  (by decide) ?_)
  refine ⟨6, _, by decide, c_X7_go_flt t hq, ?_⟩
  rintro _ h1 ⟨x, rfl, a, b, f, e⟩
  refine ⟨x, rfl, fun q => absurd q a, fun _ => ?_⟩
  rw [b, zwr_eq (by omega) (by omega)]
  exact ⟨rfl, e, f.m⟩
def mF9 (h h' : zH) : Prop := (∀ k : Nat, (k ≤ 127 ∨ k = 132 ∨ k = 133 ∨ k = 134 ∨ 140 ≤ k) → h' k = h k) ∧ ∀ i : Nat, i ≠ 9 → i ≠ 10 → i ≠ 14 → i ≠ 15 → i ≠ 16 → i ≠ 18 → h' 128 i = h 128 i
theorem c_X7_perform_stop {B : Int} {T : zs} {len m kf : Nat} {ef : Int} {h : zH} (t : mT T len h) (hm : okP T len m) (hW : WF B (h 129)) (hB : B ≤ 90000) (ho : runF (h 129) (tA T len) m kf ef) : zSp 7 mX7_perform [zR 128] h (fun q h' => q = some (zI (-4)) ∧ h' 129 = h 129 ∧ h' 128 9 = (kf : Int) ∧ h' 128 10 = ef ∧ mF9 h h') := by
  refine zSp_of (by decide +kernel) (Nat.le_of_ble_eq_true rfl) rfl (fun Γ => k_X7_perform_0  (by decide) ?_)
  refine ⟨6, _, by decide, c_X7_go_ok t hm, ?_⟩
  rintro _ h1 ⟨rfl, a1, f1, e1⟩
  refine ⟨_, rfl, fun _ => ?_, fun q => absurd a1 q⟩
  refine ⟨1, _, by decide, c_X7_putAside, ?_⟩
  rintro _ h2 ⟨rfl, e2⟩
  have e29 : h2 129 = h 129 := by rw [e2, zrow_ne _ _ (by decide), e1]
  have f2 : mF h h2 := f1.m.trans (by rw [e2]; exact mF_row (by omega))
  have t2 := mT_m t f2
  refine ⟨rfl, 6, _, by decide, c_X7_go_stop (B := B) t2 hm (by rw [e29]; exact hW) hB (by rw [e29]; exact ho), ?_⟩
  rintro _ h3 ⟨rfl, e18, f3, z3⟩
  refine ⟨_, rfl, 1, _, by decide, c_X7_putBack, ?_⟩
  rintro _ h4 ⟨rfl, e4⟩
  have b4 : h4 129 = h 129 := by
    rw [e4, ← e1]
    refine trial_back (h := h1) ?_ (by rw [e1]; exact hW.z) z3
    rw [f3.1 130 (by decide) (by decide) (by decide) (by decide) (by decide) (by decide), e2, zrow_get]
  have e418 : h4 128 18 = ef := by rw [e4, zrow_ne _ _ (by decide)]; exact e18
  have f4 : mF h h4 := f2.trans (f3.m.trans (by rw [e4]; exact mF_row (by omega)))
  have neg := ho.2.2.2
  rw [e418]
  refine ⟨rfl, fun q => absurd q (by omega), fun _ => ?_⟩
  rintro _ rfl
  rintro _ rfl
  refine ⟨rfl, by rw [zu_nekr _ _ _ (by decide), zu_nekr _ _ _ (by decide)]; exact b4, by rw [zu_nej _ _ _ (by decide), zu_same], ?_, fun k hk => by rw [zu_nekr _ _ _ (by omega), zu_nekr _ _ _ (by omega)]; exact f4.1 k hk, fun i i1 i2 i3 i4 i5 i6 => by rw [zu_nej _ _ _ i2, zu_nej _ _ _ i1]; exact f4.2 i i3 i4 i5 i6⟩
  rw [zu_same, zu_nej _ _ _ (by decide), e418]
theorem c_X7_perform_run {B : Int} {T : zs} {len m n : Nat} {h : zH} (t : mT T len h) (hm : okP T len m) (hW : WF B (h 129)) (hB : B ≤ 90000) (hn : h 128 4 = (n : Int)) (n4 : n ≤ 4) (ho : runO (h 129) (tA T len) m) : zSp 7 mX7_perform [zR 128] h (fun q h' => q = some (zI (m : Int)) ∧ h' 129 = rS (h 129) (tA T len) m ∧ mPush n h h') := by
  refine zSp_of (by decide +kernel) (Nat.le_of_ble_eq_true rfl) rfl (fun Γ => k_X7_perform_0  (by decide) ?_)
  obtain ⟨m21, -, -⟩ := okP_acts t.2.1 hm
  refine ⟨6, _, by decide, c_X7_go_ok t hm, ?_⟩
  rintro _ h1 ⟨rfl, a1, f1, e1⟩
  refine ⟨_, rfl, fun _ => ?_, fun q => absurd a1 q⟩
  refine ⟨1, _, by decide, c_X7_putAside, ?_⟩
  rintro _ h2 ⟨rfl, e2⟩
  have e29 : h2 129 = h 129 := by rw [e2, zrow_ne _ _ (by decide), e1]
  have f2 : mF h h2 := f1.m.trans (by rw [e2]; exact mF_row (by omega))
  have t2 := mT_m t f2
  refine ⟨rfl, 6, _, by decide, c_X7_go_run (B := B) t2 hm (by rw [e29]; exact hW) hB (by rw [e29]; exact ho), ?_⟩
  rintro _ h3 ⟨rfl, e18, f3, e3⟩
  rw [e29] at e3
  refine ⟨_, rfl, 1, _, by decide, c_X7_putBack, ?_⟩
  rintro _ h4 ⟨rfl, e4⟩
  have b4 : h4 129 = h 129 := by
    rw [e4, ← e1]
    refine trial_back (h := h1) ?_ (by rw [e1]; exact hW.z) (by rw [e3]; exact (WF_rS hW hB m (by omega)).z)
    rw [f3.1 130 (by decide) (by decide) (by decide) (by decide) (by decide) (by decide), e2, zrow_get]
  have e418 : h4 128 18 = 0 := by rw [e4, zrow_ne _ _ (by decide)]; exact e18
  have f4 : mF h h4 := f2.trans (f3.m.trans (by rw [e4]; exact mF_row (by omega)))
  rw [e418]
  refine ⟨rfl, fun _ => ?_, fun q => absurd (Int.le_refl 0) q⟩
  obtain ⟨k1, k2⟩ := mPush_kn (h := h4) (by rw [b4]; exact hW.z) (mF4 f4 hn) n4
  refine ⟨1, _, by decide, c_X7_know (by rw [mF4 f4 hn]; omega), ?_⟩
  rintro _ _ ⟨rfl, rfl⟩
  rw [b4] at k2
  refine ⟨rfl, 6, _, by decide, c_X7_go_run (B := B) (mT_g (mT_m t f4) k1.2.2) hm (by rw [k2]; exact hW) hB (by rw [k2]; exact ho), ?_⟩
  rintro _ h6 ⟨rfl, -, f6, e6⟩
  rw [k2] at e6
  exact ⟨_, rfl, rfl, e6, mPush_m (mPush_pre f4 b4 k1) f6.m⟩
