/-! contracts of the reference's small methods -/
def sCnt (s : zs) (c : Int) : Nat → Int
  | 0 => 0
  | n + 1 => sCnt s c n + (if s (136 + 5 * (n : Int) + 3).toNat = c then 1 else 0)
def sSum (s : zs) (a c w : Int) : Nat → Int
  | 0 => 0
  | n + 1 => sSum s a c w n + (if s (136 + 5 * (n : Int) + 3).toNat = c ∧ s (136 + 5 * (n : Int) + w).toNat = a then s (136 + 5 * (n : Int) + 4).toNat else 0)
def sAg (s : zs) (c w : Int) : Nat → Int
  | 0 => 0
  | n + 1 => sAg s c w n + (if w = 8 then s (36 + 6 * c + (n : Int)).toNat else if 0 < s (6 * c + (n : Int)).toNat then 1 else 0)
def sWh (s : zs) (c : Int) : Nat → Int
  | 0 => -5
  | n + 1 => if s (6 * c + (n : Int)).toNat = 64 then (n : Int) else sWh s c n
def sPc (s : zs) (a c : Int) : Nat → Int
  | 0 => -5
  | n + 1 => if s (72 + 6 * c + (n : Int)).toNat = a then (n : Int) else sPc s a c n
def sShC (s : zs) (i lim : Int) : zs := fun j => if i ≤ (j : Int) ∧ (j : Int) < lim then s (j + 1) else s j
def sDrop (s : zs) (c k : Int) : zs := sShC (sSub s (108 + c).toNat 1) (72 + 6 * c + k) (72 + 6 * c + zwr (s (108 + c).toNat - 1))
def sCp (f g : zs) : zs := fun j => if j < 336 then f j else g j
def sFault (s : zs) (a b c p : Int) : Int :=
  if ¬ (0 ≤ a ∧ a ≤ 5) then -1 else if ¬ (0 ≤ b ∧ b ≤ 5) then -1 else if ¬ (0 ≤ c ∧ c ≤ 5) then -1 else if ¬ (1 ≤ p ∧ p ≤ 64) then -2 else if a = b then -2 else if s (6 * c + a).toNat < p then -4 else if s (36 + 6 * c + a).toNat = 1 then -4 else if s 132 = 40 ∨ s 133 = 1000 then -3 else 0
theorem c_X7_placeOf_l {Post : Option zA → zH → Prop} {Γ : zCx} {h : zH} {v1 : Int} (hn : 0 ≤ h 129 132 ∧ h 129 132 ≤ 40) (hp : Post (some (zI (sPlace (h 129) v1))) h) : ∀ n m : Nat, n + m = (h 129 132).toNat → sPlc (h 129) v1 m = -5 → (fun (d : Nat) => zV RX7 cX7_placeOf 3 (some .int) d Post Γ 2 [(0, zR 128), (1, zI v1), (2, zI (m : Int))] [] h) 2 := by
  intro n
  induction n with
  | zero =>
    intro m hm h2
    refine k_X7_placeOf_2 (by decide) ⟨fun c => ?_, fun c => absurd c (by omega)⟩
    rw [show sPlace (h 129) v1 = -5 by rw [sPlace, ← hm, Nat.zero_add]; exact h2] at hp
    exact hp
  | succ n ih =>
    intro m hm h2
    refine k_X7_placeOf_2 (by decide) ⟨fun c => absurd c (by omega), fun c => ⟨by omega, by omega, by omega, fun c2 => ?_, fun c2 => ?_⟩⟩
    · intro x4 e4
      have e5 : x4 = ((m + 1 : Nat) : Int) := by rw [e4, zwr_eq (by omega) (by omega)]; omega
      subst e5
      refine ih (m + 1) (by omega) ?_
      unfold sPlc
      rw [if_pos h2, if_neg c2]
    · rw [show sPlace (h 129) v1 = (m : Int) from sPlc_first h2 c2 _ (by omega)] at hp
      exact hp
theorem c_X7_placeOf {h : zH} {a1 : Int} (hn : 0 ≤ h 129 132 ∧ h 129 132 ≤ 40) : zSp 2 mX7_placeOf [zR 128, zI a1] h (fun r h' => r = some (zI (sPlace (h 129) a1)) ∧ h = h') := by
  refine zSp_of (by decide +kernel) (Nat.le_of_ble_eq_true rfl) rfl (fun Γ => k_X7_placeOf_0  (by decide) ?_)
  exact c_X7_placeOf_l hn ⟨rfl, rfl⟩ (h 129 132).toNat 0 (by omega) rfl
theorem c_X7_isFull {h : zH} : zSp 1 mX7_isFull [zR 128] h (fun r h' => r = some (zI (if h 129 132 = 40 ∨ h 129 133 = 1000 then 1 else 0)) ∧ h = h') := by
  refine zSp_of (by decide +kernel) (Nat.le_of_ble_eq_true rfl) rfl (fun Γ => k_X7_isFull_0  (by decide) ?_)
  refine ⟨fun c => ⟨?_, rfl⟩, fun c => ⟨fun c2 => ⟨?_, rfl⟩, fun c2 => ⟨?_, rfl⟩⟩⟩
  · rw [if_pos (Or.inl c)]
  · rw [if_neg (by omega)]
  · rw [if_pos (Or.inr c2)]
theorem c_X7_canGive {h : zH} {a1 : Int} (h0 : 0 ≤ a1 ∧ a1 < 40) (h1 : 0 ≤ h 129 (136 + 5 * a1 + 2).toNat ∧ h 129 (136 + 5 * a1 + 2).toNat ≤ 5) (h2 : 0 ≤ h 129 (136 + 5 * a1 + 3).toNat ∧ h 129 (136 + 5 * a1 + 3).toNat ≤ 5) : zSp 2 mX7_canGive [zR 128, zI a1] h (fun r h' => (∃ x : Int, r = some (zI x) ∧ (x = 0 ∧ ¬ sCan (h 129) a1 ∨ x = 1 ∧ sCan (h 129) a1)) ∧ h = h') := by
  refine zSp_of (by decide +kernel) (Nat.le_of_ble_eq_true rfl) rfl (fun Γ => k_X7_canGive_0  (by decide) ?_)
  refine ⟨by omega, by omega, by omega, ?_⟩
  rintro _ rfl
  refine ⟨by omega, by omega, by omega, ?_⟩
  rintro _ rfl
  refine ⟨h1, h2, by omega, by omega, by omega, by omega, by omega, fun c => ⟨⟨0, rfl, Or.inl ⟨rfl, fun q => ?_⟩⟩, rfl⟩, fun c => ⟨h1, h2, by omega, by omega, fun c2 => ⟨⟨0, rfl, Or.inl ⟨rfl, fun q => ?_⟩⟩, rfl⟩, fun c2 => ⟨⟨1, rfl, Or.inr ⟨rfl, ?_, c2⟩⟩, rfl⟩⟩⟩
  · have := q.1
    omega
  · exact c2 q.2
  · omega
theorem c_X7_lends {h : zH} {a1 a2 a3 a4 : Int} (h1 : 0 ≤ a1 ∧ a1 ≤ 5) (h2 : 0 ≤ a2 ∧ a2 ≤ 5) (h3 : 0 ≤ a3 ∧ a3 ≤ 5) (hn : 0 ≤ h 129 132 ∧ h 129 132 < 40) : zSp 2 mX7_lends [zR 128, zI a1, zI a2, zI a3, zI a4] h (fun r h' => r = some (zI (zwr (sLend (h 129) a1 a2 a3 a4 133 - 1))) ∧ h' = zrow h 129 (sLend (h 129) a1 a2 a3 a4)) := by
  refine zSp_of (by decide +kernel) (Nat.le_of_ble_eq_true rfl) rfl (fun Γ => k_X7_lends_0  (by decide) ?_)
  repeat (first | (rintro _ rfl) | (refine ⟨by omega, ?_⟩))
  simp only [zu_row, zrow_get, zrow_row]
  exact ⟨rfl, rfl⟩
theorem c_X7_writes {h : zH} {a1 a2 : Int} (h1 : 0 ≤ a1 ∧ a1 ≤ 5) : zSp 1 mX7_writes [zR 128, zI a1, zI a2] h (fun r h' => r = some (zI (sWrite (h 129) a1 a2 (120 + a1).toNat)) ∧ h' = zrow h 129 (sWrite (h 129) a1 a2)) := by
  refine zSp_of (by decide +kernel) (Nat.le_of_ble_eq_true rfl) rfl (fun Γ => k_X7_writes_0  (by decide) ?_)
  rw [zwr_eq (a := 114 + a1) (by omega) (by omega), zwr_eq (a := 120 + a1) (by omega) (by omega)]
  repeat (first | (rintro _ rfl) | (refine ⟨by omega, ?_⟩))
  simp only [zu_row, zrow_get, zrow_row]
  exact ⟨rfl, rfl⟩
theorem c_X7_latest_l {Post : Option zA → zH → Prop} {Γ : zCx} {h : zH} {v1 v2 v3 : Int} (hn : 0 ≤ h 129 132 ∧ h 129 132 ≤ 40) (hp : Post (some (zI (sLatest (h 129) v1 v2 v3))) h) : ∀ n m : Nat, n + m = (h 129 132).toNat → (fun (d : Nat) => zV RX7 cX7_latest 7 (some .int) d Post Γ 7 [(0, zR 128), (1, zI v1), (2, zI v2), (3, zI v3), (4, zI (sLat (h 129) v1 v2 v3 m)), (5, zI (m : Int))] [] h) 2 := by
  intro n
  induction n with
  | zero =>
    intro m hm
    refine k_X7_latest_7 (by decide) ⟨fun c => ?_, fun c => absurd c (by omega)⟩
    rw [sLatest, show (h 129 132).toNat = m by omega] at hp
    exact hp
  | succ n ih =>
    intro m hm
    have nxt : ∀ x : Int, x = zwr ((m : Int) + 1) → x = ((m + 1 : Nat) : Int) := fun x e => by rw [e, zwr_eq (by omega) (by omega)]; omega
    refine k_X7_latest_7 (by decide) ⟨fun c => absurd c (by omega), fun c => ⟨by omega, by omega, by omega, fun c2 => ?_, fun c2 => ⟨by omega, by omega, by omega, fun c3 => ?_, fun c3 => ⟨by omega, by omega, by omega, fun c4 => ?_, fun c4 => ?_⟩⟩⟩⟩
    · intro x e
      have := ih (m + 1) (by omega)
      rw [nxt x e]
      unfold sLat at this
      rw [if_neg (fun q => c2 q.1)] at this
      exact this
    · intro x e
      have := ih (m + 1) (by omega)
      rw [nxt x e]
      unfold sLat at this
      rw [if_neg (fun q => c3 q.2.1)] at this
      exact this
    · intro x e
      have := ih (m + 1) (by omega)
      rw [nxt x e]
      unfold sLat at this
      rw [if_neg (fun q => by have := q.2.2; omega)] at this
      exact this
    · intro x e
      have := ih (m + 1) (by omega)
      rw [nxt x e]
      unfold sLat at this
      rw [if_pos ⟨c2, c3, by omega⟩] at this
      exact this
theorem c_X7_latest {h : zH} {a1 a2 a3 : Int} (hn : 0 ≤ h 129 132 ∧ h 129 132 ≤ 40) : zSp 2 mX7_latest [zR 128, zI a1, zI a2, zI a3] h (fun r h' => r = some (zI (sLatest (h 129) a1 a2 a3)) ∧ h = h') := by
  refine zSp_of (by decide +kernel) (Nat.le_of_ble_eq_true rfl) rfl (fun Γ => k_X7_latest_0  (by decide) ?_)
  exact c_X7_latest_l hn ⟨rfl, rfl⟩ (h 129 132).toNat 0 (by omega)
theorem c_X7_lendFault {h : zH} {a1 a2 a3 a4 : Int} : zSp 3 mX7_lendFault [zR 128, zI a1, zI a2, zI a3, zI a4] h (fun r h' => r = some (zI (sFault (h 129) a1 a2 a3 a4)) ∧ h = h') := by
  refine zSp_of (by decide +kernel) (Nat.le_of_ble_eq_true rfl) rfl (fun Γ => k_X7_lendFault_0  (by decide) ?_)
  unfold sFault
  refine ⟨fun c => ⟨by rw [if_pos c], rfl⟩, fun c => ⟨fun c2 => ⟨by rw [if_neg (fun q => q c), if_pos c2], rfl⟩, fun c2 => ⟨fun c3 => ⟨fun c4 => ⟨by rw [if_neg (fun q => q c), if_neg (fun q => q c2), if_neg (fun q => q c3), if_pos c4], rfl⟩, fun c4 => ⟨fun c5 => ⟨c, c3, by omega, by omega, fun c6 => ⟨?_, rfl⟩, fun c6 => ⟨c, c3, by omega, by omega, fun c7 => ?_, fun c7 => ⟨?_, rfl⟩⟩⟩, fun c5 => ⟨?_, rfl⟩⟩⟩, fun c3 => ⟨by rw [if_neg (fun q => q c), if_neg (fun q => q c2), if_pos c3], rfl⟩⟩⟩⟩
  · rw [if_neg (fun q => q c), if_neg (fun q => q c2), if_neg (fun q => q c3), if_neg (fun q => q c4), if_neg c5, if_pos c6]
  · refine ⟨_, _, by decide, c_X7_isFull, ?_⟩
    rintro _ _ ⟨rfl, rfl⟩
    refine ⟨_, rfl, ?_⟩
    by_cases cf : h 129 132 = 40 ∨ h 129 133 = 1000
    · rw [if_pos cf]
      refine ⟨fun q => absurd q (by decide), fun _ => ⟨?_, rfl⟩⟩
      rw [if_neg (fun q => q c), if_neg (fun q => q c2), if_neg (fun q => q c3), if_neg (fun q => q c4), if_neg c5, if_neg c6, if_neg c7, if_pos cf]
    · rw [if_neg cf]
      refine ⟨fun _ => ⟨?_, rfl⟩, fun q => absurd rfl q⟩
      rw [if_neg (fun q => q c), if_neg (fun q => q c2), if_neg (fun q => q c3), if_neg (fun q => q c4), if_neg c5, if_neg c6, if_neg c7, if_neg cf]
  · rw [if_neg (fun q => q c), if_neg (fun q => q c2), if_neg (fun q => q c3), if_neg (fun q => q c4), if_neg c5, if_neg c6, if_pos c7]
  · rw [if_neg (fun q => q c), if_neg (fun q => q c2), if_neg (fun q => q c3), if_neg (fun q => q c4), if_pos c5]
