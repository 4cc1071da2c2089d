/-! history, and how the class's acts are opened and closed -/
theorem zSt_rowN {i : Nat} (h : i < 5) : zSt (48 + 15 * i) := by
  have := zSt_row (a := (i : Int)) (by omega) (by omega)
  rw [Int.toNat_natCast] at this
  exact this
theorem zrem_up : ∀ o, o < 5 → zrem (zwr ((o : Nat) + 1)) 5 = (((o + 1) % 5 : Nat) : Int) := by decide +kernel
theorem zrem_dn : ∀ o, o < 5 → zrem (zwr (zwr ((o : Nat) + 5) - 1)) 5 = (((o + 4) % 5 : Nat) : Int) := by decide +kernel
def pushN (n : Nat) : Nat := if n = 4 then 4 else n + 1
def pushH (n : Nat) (H : Nat → zs) (s : zs) : Nat → zs := fun i => if n = 4 then (if i < 3 then H (i + 1) else s) else (if i < n then H i else s)
def CInv (B : Int) (s : zs) (n : Nat) (H : Nat → zs) (h : zH) : Prop := Rep s h 1 ∧ WF B s ∧ (0 ≤ h 46 1 ∧ h 46 1 < 5) ∧ h 46 2 = (n : Int) ∧ n ≤ 4 ∧ ∀ i : Nat, i < n → Rep (H i) h (48 + 15 * (((h 46 1).toNat + 5 - n + i) % 5)) ∧ WF B (H i)
theorem CInv_up {B B' : Int} {s : zs} {n : Nat} {H : Nat → zs} {h : zH} (c : CInv B s n H h) (hB : B ≤ B') : CInv B' s n H h := ⟨c.1, WF_up c.2.1 hB, c.2.2.1, c.2.2.2.1, c.2.2.2.2.1, fun i hi => ⟨(c.2.2.2.2.2 i hi).1, WF_up (c.2.2.2.2.2 i hi).2 hB⟩⟩
theorem CInv_fr {B : Int} {s : zs} {n : Nat} {H : Nat → zs} {h h' : zH} (c : CInv B s n H h) (f : ∀ k : Nat, ((1 ≤ k ∧ k < 16) ∨ k = 46 ∨ (48 ≤ k ∧ k < 123)) → h' k = h k) : CInv B s n H h' := by
  obtain ⟨c1, c2, c3, c4, c5, c6⟩ := c
  refine ⟨Rep_congr c1 (fun k k0 k1 => f k (by omega)), c2, by rw [f 46 (by omega)]; exact c3, by rw [f 46 (by omega)]; exact c4, c5, fun i hi => ?_⟩
  rw [f 46 (by omega)]
  exact ⟨Rep_congr (c6 i hi).1 (fun k k0 k1 => f k (by omega)), (c6 i hi).2⟩
theorem c_X2_open {B : Int} {h : zH} {s : zs} (r : Rep s h 1) (hW : WF B s) (ho : 0 ≤ h 46 1 ∧ h 46 1 < 5) : zSp 3 mX2_open [zR 46, zR 1] h (fun q h' => q = none ∧ Rep s h' (48 + 15 * (h 46 1).toNat) ∧ zFr (48 + 15 * (h 46 1).toNat) h h') := by
  refine zSp_of (by decide +kernel) (Nat.le_of_ble_eq_true rfl) rfl (fun Γ => k_X2_open_0 zSt_1 (by decide) ?_)
  refine ⟨ho.1, ho.2, 2, _, by decide, c_X4_copyFrom (zSt_row ho.1 ho.2) zSt_1 (by omega) r hW, ?_⟩
  rintro _ h1 ⟨rfl, r1, f1⟩
  exact ⟨rfl, rfl, r1, f1⟩
theorem c_X2_opened {h : zH} (ho : 0 ≤ h 46 1 ∧ h 46 1 < 5) : zSp 1 mX2_opened [zR 46] h (fun q h' => q = some (zR (48 + 15 * (h 46 1).toNat)) ∧ h = h') := by
  refine zSp_of (by decide +kernel) (Nat.le_of_ble_eq_true rfl) rfl (fun Γ => k_X2_opened_0  (by decide) ?_)
  exact ⟨ho.1, ho.2, rfl, rfl⟩
theorem c_X2_record {h : zH} {o n : Nat} (ho : h 46 1 = (o : Int)) (ho5 : o < 5) (hn : h 46 2 = (n : Int)) (hn4 : n ≤ 4) : zSp 1 mX2_record [zR 46] h (fun q h' => q = none ∧ h' 46 1 = (((o + 1) % 5 : Nat) : Int) ∧ h' 46 2 = ((pushN n : Nat) : Int) ∧ ∀ k : Nat, k ≠ 46 → h' k = h k) := by
  refine zSp_of (by decide +kernel) (Nat.le_of_ble_eq_true rfl) rfl (fun Γ => k_X2_record_0  (by decide) ?_)
  rintro _ rfl
  rintro _ rfl
  rw [zu_nej (j := 1) (j' := 2) _ _ _ (by decide), hn, ho, zrem_up o ho5, zwr_eq (by omega) (by omega)]
  refine ⟨rfl, ?_, ?_, fun k hk => by rw [zu_nekr _ _ _ hk, zu_nekr _ _ _ hk]⟩
  · rw [zu_nej _ _ _ (by decide), zu_same]
  · rw [zu_same]
    unfold pushN
    repeat' split
    all_goals omega
theorem c_X2_takeLatest {h : zH} {o n : Nat} (ho : h 46 1 = (o : Int)) (ho5 : o < 5) (hn : h 46 2 = (n : Int)) (hn4 : n ≤ 4) : zSp 1 mX2_takeLatest [zR 46] h (fun q h' => (n = 0 ∧ q = some zN ∧ h' = h) ∨ (n ≠ 0 ∧ q = some (zR (48 + 15 * ((o + 4) % 5))) ∧ h' 46 1 = (((o + 4) % 5 : Nat) : Int) ∧ h' 46 2 = ((n - 1 : Nat) : Int) ∧ ∀ k : Nat, k ≠ 46 → h' k = h k)) := by
  refine zSp_of (by decide +kernel) (Nat.le_of_ble_eq_true rfl) rfl (fun Γ => k_X2_takeLatest_0  (by decide) ?_)
  rw [hn]
  refine ⟨fun c => ?_, fun c => Or.inl ⟨by omega, rfl, rfl⟩⟩
  rintro _ rfl
  rintro _ rfl
  rw [zu_nej (j := 2) (j' := 1) _ _ _ (by decide), ho, zrem_dn o ho5, zwr_eq (by omega) (by omega), zu_same, Int.toNat_natCast]
  refine ⟨by omega, by omega, Or.inr ⟨by omega, rfl, rfl, ?_, fun k hk => by rw [zu_nekr _ _ _ hk, zu_nekr _ _ _ hk]⟩⟩
  · rw [zu_nej _ _ _ (by decide), zu_same]
    omega
theorem c_X6_close {B : Int} {h : zH} {s : zs} {a : Int} {o n : Nat} (ho : h 46 1 = (o : Int)) (ho5 : o < 5) (hn : h 46 2 = (n : Int)) (hn4 : n ≤ 4) (hr : a < 0 → Rep s h (48 + 15 * o)) (hW : WF B s) : zSp 3 mX6_close [zR 0, zI a] h (fun q h' => q = some (zI a) ∧ (a < 0 → Rep s h' 1 ∧ zFr 1 h h') ∧ (0 ≤ a → h' 46 1 = (((o + 1) % 5 : Nat) : Int) ∧ h' 46 2 = ((pushN n : Nat) : Int) ∧ ∀ k : Nat, k ≠ 46 → h' k = h k)) := by
  refine zSp_of (by decide +kernel) (Nat.le_of_ble_eq_true rfl) rfl (fun Γ => k_X6_close_0  (by decide) ?_)
  refine ⟨fun c => ?_, fun c => ?_⟩
  · refine ⟨1, _, by decide, c_X2_record ho ho5 hn hn4, ?_⟩
    rintro _ h1 ⟨rfl, e1, e2, e3⟩
    exact ⟨rfl, rfl, fun c2 => absurd c2 (by omega), fun _ => ⟨e1, e2, e3⟩⟩
  · refine ⟨1, _, by decide, c_X2_opened (by omega), ?_⟩
    rintro _ _ ⟨rfl, rfl⟩
    rw [ho, Int.toNat_natCast]
    refine ⟨_, rfl, zSt_rowN ho5, 2, _, by decide, c_X4_copyFrom zSt_1 (zSt_rowN ho5) (by omega) (hr (by omega)) hW, ?_⟩
    rintro _ h1 ⟨rfl, r1, f1⟩
    exact ⟨rfl, rfl, fun _ => ⟨r1, f1⟩, fun c2 => absurd c2 c⟩
theorem act_end {B B' : Int} {s s' : zs} {n o : Nat} {H : Nat → zs} {h h2 h' : zH} {a : Int} (c : CInv B s n H h) (ho : h 46 1 = (o : Int)) (hB : B ≤ B') (hW' : 0 ≤ a → WF B' s') (r' : 0 ≤ a → Rep s' h2 1)
    (hrow : ∀ k : Nat, k = 46 ∨ (48 ≤ k ∧ k < 48 + 15 * o) ∨ (48 + 15 * o + 15 ≤ k ∧ k < 123) → h2 k = h k) (hs : Rep s h2 (48 + 15 * o))
    (c1 : a < 0 → Rep s h' 1 ∧ zFr 1 h2 h') (c2 : 0 ≤ a → h' 46 1 = (((o + 1) % 5 : Nat) : Int) ∧ h' 46 2 = ((pushN n : Nat) : Int) ∧ ∀ k : Nat, k ≠ 46 → h' k = h2 k) : (a < 0 → CInv B' s n H h') ∧ (0 ≤ a → CInv B' s' (pushN n) (pushH n H s) h') := by
  obtain ⟨q1, q2, q3, q4, q5, q6⟩ := c
  have keep : ∀ (i : Nat), i < n → ∀ g : zH, (∀ k : Nat, 48 ≤ k → k < 123 → g k = h2 k) → Rep (H i) g (48 + 15 * ((o + 5 - n + i) % 5)) := by
    intro i hi g hg
    have := (q6 i hi).1
    rw [ho, Int.toNat_natCast] at this
    refine Rep_congr this (fun k k0 k1 => ?_)
    rw [hg k (by omega) (by omega)]
    exact hrow k (by omega)
  refine ⟨fun ha => ?_, fun ha => ?_⟩
  · obtain ⟨r1, f1⟩ := c1 ha
    refine ⟨r1, WF_up q2 hB, by rw [f1 46 (by omega), hrow 46 (by omega)]; exact q3, by rw [f1 46 (by omega), hrow 46 (by omega)]; exact q4, q5, fun i hi => ?_⟩
    rw [f1 46 (by omega), hrow 46 (by omega), ho, Int.toNat_natCast]
    exact ⟨keep i hi h' (fun k _ _ => f1 k (by omega)), WF_up (q6 i hi).2 hB⟩
  · obtain ⟨e1, e2, e3⟩ := c2 ha
    refine ⟨Rep_congr (r' ha) (fun k _ _ => e3 k (by omega)), hW' ha, by rw [e1]; omega, e2, by unfold pushN; split <;> omega, fun i hi => ?_⟩
    rw [e1, Int.toNat_natCast]
    have rs : Rep s h' (48 + 15 * o) := Rep_congr hs (fun k _ _ => e3 k (by omega))
    unfold pushN at hi
    unfold pushN pushH
    by_cases e : n = 4
    · rw [if_pos e] at hi
      simp only [if_pos e]
      by_cases e2 : i < 3
      · rw [if_pos e2, show ((o + 1) % 5 + 5 - 4 + i) % 5 = (o + 5 - n + (i + 1)) % 5 by omega]
        exact ⟨keep (i + 1) (by omega) h' (fun k _ _ => e3 k (by omega)), WF_up (q6 (i + 1) (by omega)).2 hB⟩
      · rw [if_neg e2, show ((o + 1) % 5 + 5 - 4 + i) % 5 = o by omega]
        exact ⟨rs, WF_up q2 hB⟩
    · rw [if_neg e] at hi
      simp only [if_neg e]
      by_cases e2 : i < n
      · rw [if_pos e2, show ((o + 1) % 5 + 5 - (n + 1) + i) % 5 = (o + 5 - n + i) % 5 by omega]
        exact ⟨keep i e2 h' (fun k _ _ => e3 k (by omega)), WF_up (q6 i e2).2 hB⟩
      · rw [if_neg e2, show ((o + 1) % 5 + 5 - (n + 1) + i) % 5 = o by omega]
        exact ⟨rs, WF_up q2 hB⟩
theorem act_wrap {B B' : Int} {D da : Nat} {m : zM} {args : List zA} {Post : Option zA → zH → Prop} {s s' : zs} {n : Nat} {H : Nat → zs} {h : zH} {a : Int} {X : zH → Prop} (c : CInv B s n H h) (hD : 4 ≤ D ∧ da + 1 ≤ D) (hB : B ≤ B') (hW' : 0 ≤ a → WF B' s')
    (act : ∀ h1 : zH, Rep s h1 1 → (∀ k : Nat, (k < 48 ∨ 123 ≤ k) → h1 k = h k) → zSp da m args h1 (fun q h' => q = some (zI a) ∧ (0 ≤ a → Rep s' h' 1) ∧ (∀ k : Nat, (k = 46 ∨ (48 ≤ k ∧ k < 123)) → h' k = h1 k) ∧ X h'))
    (K : ∀ h2 h' : zH, X h2 → (∀ k : Nat, (k = 0 ∨ (16 ≤ k ∧ k < 46) ∨ 123 ≤ k) → h' k = h2 k) → (a < 0 → CInv B' s n H h') → (0 ≤ a → CInv B' s' (pushN n) (pushH n H s) h') → Post (some (zI a)) h') :
    ∃ (d1 : Nat) (P2 : Option zA → zH → Prop), d1 + 1 ≤ D ∧ zSp d1 mX2_open [zR 46, zR 1] h P2 ∧ ∀ r3 h4, P2 r3 h4 → r3 = none ∧ ∃ (d7 : Nat) (P8 : Option zA → zH → Prop), d7 + 1 ≤ D ∧ zSp d7 m args h4 P8 ∧ ∀ r9 h10, P8 r9 h10 → ∃ x13 : Int, r9 = some (zI x13) ∧ ∃ (d14 : Nat) (P15 : Option zA → zH → Prop), d14 + 1 ≤ D ∧ zSp d14 mX6_close [zR 0, zI x13] h10 P15 ∧ ∀ r16 h17, P15 r16 h17 → ∃ x20 : Int, r16 = some (zI x20) ∧ Post (some (zI x20)) h17 := by
  have c0 := c
  obtain ⟨q1, q2, q3, q4, q5, q6⟩ := c
  have go : ∃ o : Nat, o < 5 ∧ h 46 1 = (o : Int) := ⟨(h 46 1).toNat, by omega, by omega⟩
  obtain ⟨o, o5, ho⟩ := go
  refine ⟨3, _, by omega, c_X2_open q1 q2 q3, ?_⟩
  rintro _ h1 ⟨rfl, r1, f1⟩
  rw [ho, Int.toNat_natCast] at r1 f1
  refine ⟨rfl, da, _, by omega, act h1 (Rep_congr q1 (fun k _ _ => f1 k (by omega))) (fun k hk => f1 k (by omega)), ?_⟩
  rintro _ h2 ⟨rfl, r2, f2, x2⟩
  have rs : Rep s h2 (48 + 15 * o) := Rep_congr r1 (fun k _ _ => f2 k (by omega))
  have e46 : h2 46 = h 46 := by rw [f2 46 (by omega), f1 46 (by omega)]
  refine ⟨_, rfl, 3, _, by omega, c_X6_close (B := B) (s := s) (by rw [e46]; exact ho) o5 (by rw [e46]; exact q4) q5 (fun _ => rs) q2, ?_⟩
  rintro _ h3 ⟨rfl, c1, c2⟩
  refine ⟨_, rfl, ?_⟩
  obtain ⟨w1, w2⟩ := act_end (h' := h3) c0 ho hB hW' r2 (fun k hk => by rw [f2 k (by omega), f1 k (by omega)]) rs c1 c2
  refine K h2 h3 x2 (fun k hk => ?_) w1 w2
  by_cases ha : a < 0
  · exact (c1 ha).2 k (by omega)
  · exact (c2 (by omega)).2.2 k (by omega)
