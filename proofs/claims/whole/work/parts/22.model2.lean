/-! contracts of the reference's small methods, on -/
theorem zstep {x : Int} {m : Nat} (e : x = zwr ((m : Int) + 1)) (hm : m < 100000) : x = ((m + 1 : Nat) : Int) := by rw [e, zwr_eq (by omega) (by omega)]; omega
theorem c_X7_gives_l {Post : Option zA → zH → Prop} {Γ : zCx} {h0 : zH} {s : zs} {v1 v2 v3 i : Int} (hi : 136 ≤ i) (hn : 1 ≤ s 132 ∧ s 132 ≤ 40) (h2 : 0 ≤ v2 ∧ v2 ≤ 5) (h3 : 0 ≤ v3 ∧ v3 ≤ 5)
    (hp : Post (some (zI (sAdd (sSub (sSh s i (136 + 5 * (s 132 - 1))) 132 1) 135 1 (6 * v3 + v2).toNat))) (zrow h0 129 (sAdd (sSub (sSh s i (136 + 5 * (s 132 - 1))) 132 1) 135 1))) :
    ∀ (n : Nat) (v4 : Int), n = (136 + 5 * (s 132 - 1) - v4).toNat → i ≤ v4 → v4 ≤ 136 + 5 * (s 132 - 1) → (fun (d : Nat) => zV RX7 cX7_gives 5 (some .int) d Post Γ 84 [(0, zR 128), (1, zI v1), (2, zI v2), (3, zI v3), (4, zI v4)] [] (zrow h0 129 (sSh s i v4))) 2 := by
  have e132 : ∀ lim : Int, sSh s i lim 132 = s 132 := fun lim => if_neg (by omega)
  intro n
  induction n with
  | zero =>
    intro v4 hm hlo hhi
    have ev : v4 = 136 + 5 * (s 132 - 1) := by omega
    refine k_X7_gives_84 (by decide) ?_
    rw [zrow_get, e132, zwr_eq (a := s 132 - 1) (by omega) (by omega)]
    refine ⟨by omega, fun c => ?_, fun c => absurd c (by omega)⟩
    subst ev
    repeat (first | (rintro _ rfl) | (refine ⟨h2, ?_⟩) | (refine ⟨h3, ?_⟩) | (refine ⟨by omega, ?_⟩))
    simp only [zu_row, zrow_get, zrow_row]
    have eq1 : su (sSh s i (136 + 5 * (s 132 - 1))) 132 (s 132 - 1) = sSub (sSh s i (136 + 5 * (s 132 - 1))) 132 1 := by
      unfold sSub
      rw [e132, zwr_eq (a := s 132 - 1) (by omega) (by omega)]
    rw [eq1]
    exact hp
  | succ n ih =>
    intro v4 hm hlo hhi
    refine k_X7_gives_84 (by decide) ?_
    rw [zrow_get, e132, zwr_eq (a := s 132 - 1) (by omega) (by omega)]
    refine ⟨by omega, fun c => absurd c (by omega), fun c => ?_⟩
    rw [zwr_eq (a := v4 + 5) (by omega) (by omega), zwr_eq (a := v4 + 1) (by omega) (by omega)]
    refine ⟨by omega, by omega, by omega, by omega, ?_⟩
    rintro _ rfl
    rintro _ rfl
    have e2 : zu (zrow h0 129 (sSh s i v4)) 129 v4.toNat (sSh s i v4 (v4 + 5).toNat) = zrow h0 129 (sSh s i (v4 + 1)) := by
      rw [zu_row, zrow_get, zrow_row]
      congr 1
      funext j
      unfold su sSh
      by_cases hj : j = v4.toNat
      · subst hj
        rw [if_pos rfl, if_neg (by omega), if_pos (by omega)]
        congr 1
        omega
      · rw [if_neg hj]
        by_cases hj2 : i ≤ (j : Int) ∧ (j : Int) < v4
        · rw [if_pos hj2, if_pos (by omega)]
        · rw [if_neg hj2, if_neg (by omega)]
    rw [e2]
    exact ih (v4 + 1) (by omega) (by omega) (by omega)
theorem c_X7_gives {h : zH} {a1 : Int} (hx : 0 ≤ a1 ∧ a1 < h 129 132) (hn : h 129 132 ≤ 40) (h1 : 0 ≤ h 129 (136 + 5 * a1 + 1).toNat ∧ h 129 (136 + 5 * a1 + 1).toNat ≤ 5) (h2 : 0 ≤ h 129 (136 + 5 * a1 + 2).toNat ∧ h 129 (136 + 5 * a1 + 2).toNat ≤ 5) (h3 : 0 ≤ h 129 (136 + 5 * a1 + 3).toNat ∧ h 129 (136 + 5 * a1 + 3).toNat ≤ 5) : zSp 2 mX7_gives [zR 128, zI a1] h (fun r h' => r = some (zI (sGive (h 129) a1 (6 * h 129 (136 + 5 * a1 + 3).toNat + h 129 (136 + 5 * a1 + 1).toNat).toNat)) ∧ h' = zrow h 129 (sGive (h 129) a1)) := by
  refine zSp_of (by decide +kernel) (Nat.le_of_ble_eq_true rfl) rfl (fun Γ => k_X7_gives_0  (by decide) ?_)
  refine ⟨by omega, by omega, by omega, ?_⟩
  rintro _ rfl
  refine ⟨by omega, by omega, by omega, ?_⟩
  rintro _ rfl
  refine ⟨by omega, by omega, by omega, h2, h3, by omega, by omega, by omega, by omega, by omega, by omega, by omega, ?_⟩
  rintro _ rfl
  refine ⟨h1, h3, by omega, by omega, by omega, by omega, by omega, by omega, by omega, ?_⟩
  rintro _ rfl
  refine ⟨by omega, ?_⟩
  rintro _ rfl
  simp only [zu_row, zrow_get, zrow_row]
  have hS : ∀ j : Nat, 36 ≤ j → sMove (h 129) (h 129 (136 + 5 * a1 + 2).toNat) (h 129 (136 + 5 * a1 + 1).toNat) (h 129 (136 + 5 * a1 + 3).toNat) (h 129 (136 + 5 * a1 + 4).toNat) j = h 129 j := by
    intro j hj
    unfold sMove sAdd sSub
    rw [su_ne _ _ (by omega), su_ne _ _ (by omega)]
  have hS4 : su (h 129) (6 * h 129 (136 + 5 * a1 + 3).toNat + h 129 (136 + 5 * a1 + 2).toNat).toNat (zwr (h 129 (6 * h 129 (136 + 5 * a1 + 3).toNat + h 129 (136 + 5 * a1 + 2).toNat).toNat - h 129 (136 + 5 * a1 + 4).toNat)) (136 + 5 * a1 + 4).toNat = h 129 (136 + 5 * a1 + 4).toNat := su_ne _ _ (by omega)
  rw [hS4]
  have key := c_X7_gives_l (Post := fun r h' => r = some (zI (sGive (h 129) a1 (6 * h 129 (136 + 5 * a1 + 3).toNat + h 129 (136 + 5 * a1 + 1).toNat).toNat)) ∧ h' = zrow h 129 (sGive (h 129) a1)) (Γ := Γ) (h0 := h) (s := sMove (h 129) (h 129 (136 + 5 * a1 + 2).toNat) (h 129 (136 + 5 * a1 + 1).toNat) (h 129 (136 + 5 * a1 + 3).toNat) (h 129 (136 + 5 * a1 + 4).toNat)) (v1 := a1) (v2 := h 129 (136 + 5 * a1 + 1).toNat) (v3 := h 129 (136 + 5 * a1 + 3).toNat) (i := 136 + 5 * a1) (by omega) (by rw [hS 132 (by decide)]; omega) h1 h3 (by
    rw [hS 132 (by decide)]
    exact ⟨rfl, rfl⟩) _ (136 + 5 * a1 + 0) rfl (by omega) (by rw [hS 132 (by decide)]; omega)
  have e0 : sSh (sMove (h 129) (h 129 (136 + 5 * a1 + 2).toNat) (h 129 (136 + 5 * a1 + 1).toNat) (h 129 (136 + 5 * a1 + 3).toNat) (h 129 (136 + 5 * a1 + 4).toNat)) (136 + 5 * a1) (136 + 5 * a1 + 0) = sMove (h 129) (h 129 (136 + 5 * a1 + 2).toNat) (h 129 (136 + 5 * a1 + 1).toNat) (h 129 (136 + 5 * a1 + 3).toNat) (h 129 (136 + 5 * a1 + 4).toNat) := by
    funext j
    exact if_neg (by omega)
  rw [e0] at key
  exact key
theorem c_X7_backFault {h : zH} {a1 : Int} (hn : 0 ≤ h 129 132 ∧ h 129 132 ≤ 40) (hl : ∀ x : Int, 0 ≤ x → x < h 129 132 → (0 ≤ h 129 (136 + 5 * x + 2).toNat ∧ h 129 (136 + 5 * x + 2).toNat ≤ 5) ∧ (0 ≤ h 129 (136 + 5 * x + 3).toNat ∧ h 129 (136 + 5 * x + 3).toNat ≤ 5)) : zSp 3 mX7_backFault [zR 128, zI a1] h (fun r h' => (∃ x : Int, r = some (zI x) ∧ (sPlace (h 129) a1 = -5 ∧ x = -1 ∨ sPlace (h 129) a1 ≠ -5 ∧ (¬ sCan (h 129) (sPlace (h 129) a1) ∧ x = -4 ∨ sCan (h 129) (sPlace (h 129) a1) ∧ x = 0))) ∧ h = h') := by
  refine zSp_of (by decide +kernel) (Nat.le_of_ble_eq_true rfl) rfl (fun Γ => k_X7_backFault_0  (by decide) ?_)
  refine ⟨_, _, by decide, c_X7_placeOf hn, ?_⟩
  rintro _ _ ⟨rfl, rfl⟩
  refine ⟨_, rfl, fun c => ?_, fun c => ⟨⟨-1, rfl, Or.inl ⟨c, rfl⟩⟩, rfl⟩⟩
  rcases sPlc_le (s := h 129) (k := a1) (h 129 132).toNat with q | ⟨q1, q2, -⟩
  · exact absurd q c
  · have := hl (sPlace (h 129) a1) q1 (by unfold sPlace; omega)
    refine ⟨_, _, by decide, c_X7_canGive ⟨q1, by unfold sPlace; omega⟩ this.1 this.2, ?_⟩
    rintro _ _ ⟨⟨x, rfl, hx⟩, rfl⟩
    refine ⟨_, rfl, fun c2 => ⟨⟨-4, rfl, Or.inr ⟨c, Or.inl ⟨?_, rfl⟩⟩⟩, rfl⟩, fun c2 => ⟨⟨0, rfl, Or.inr ⟨c, Or.inr ⟨?_, rfl⟩⟩⟩, rfl⟩⟩
    · rcases hx with ⟨-, z⟩ | ⟨z, -⟩
      · exact z
      · omega
    · rcases hx with ⟨z, -⟩ | ⟨-, z⟩
      · omega
      · exact z
theorem c_X7_writeFault {h : zH} {a1 a2 a3 : Int} : zSp 4 mX7_writeFault [zR 128, zI a1, zI a2, zI a3] h (fun r h' => r = some (zI (if ¬ ((0 ≤ a1 ∧ a1 ≤ 5) ∧ 0 ≤ a2 ∧ a2 ≤ 5) then -1 else if ¬ (0 ≤ a3 ∧ a3 ≤ 999) then -2 else if h 129 (6 * a2 + a1).toNat < 64 then -4 else 0)) ∧ h = h') := by
  refine zSp_of (by decide +kernel) (Nat.le_of_ble_eq_true rfl) rfl (fun Γ => k_X7_writeFault_0  (by decide) ?_)
  refine ⟨fun c => ⟨fun c2 => ⟨c.1, c.2, by omega, by omega, fun c3 => ⟨?_, rfl⟩, fun c3 => ⟨?_, rfl⟩⟩, fun c2 => ⟨?_, rfl⟩⟩, fun c => ⟨?_, rfl⟩⟩
  · rw [if_neg (fun q => q c), if_neg (fun q => q c2), if_neg (by omega)]
  · rw [if_neg (fun q => q c), if_neg (fun q => q c2), if_pos (by omega)]
  · rw [if_neg (fun q => q c), if_pos c2]
  · rw [if_pos c]
theorem c_X7_loansOf_l {Post : Option zA → zH → Prop} {Γ : zCx} {h : zH} {v1 : Int} (hn : 0 ≤ h 129 132 ∧ h 129 132 ≤ 40) (hp : Post (some (zI (sCnt (h 129) v1 (h 129 132).toNat))) h) : ∀ n m : Nat, n + m = (h 129 132).toNat → 0 ≤ sCnt (h 129) v1 m ∧ sCnt (h 129) v1 m ≤ m → (fun (d : Nat) => zV RX7 cX7_loansOf 4 (some .int) d Post Γ 4 [(0, zR 128), (1, zI v1), (2, zI (sCnt (h 129) v1 m)), (3, zI (m : Int))] [] h) 2 := by
  intro n
  induction n with
  | zero =>
    intro m hm hc
    refine k_X7_loansOf_4 (by decide) ⟨fun c => ?_, fun c => absurd c (by omega)⟩
    rw [show (h 129 132).toNat = m by omega] at hp
    exact hp
  | succ n ih =>
    intro m hm hc
    refine k_X7_loansOf_4 (by decide) ⟨fun c => absurd c (by omega), fun c => ⟨by omega, by omega, by omega, fun c2 => ?_, fun c2 => ?_⟩⟩
    · intro y ey x e
      have := ih (m + 1) (by omega)
      unfold sCnt at this
      rw [if_neg c2] at this
      rw [zstep e (by omega), ey, zwr_eq (by omega) (by omega)]
      exact this (by omega)
    · intro y ey x e
      have := ih (m + 1) (by omega)
      unfold sCnt at this
      rw [if_pos c2] at this
      rw [zstep e (by omega), ey, zwr_eq (by omega) (by omega)]
      exact this (by omega)
theorem c_X7_loansOf {h : zH} {a1 : Int} (hn : 0 ≤ h 129 132 ∧ h 129 132 ≤ 40) : zSp 2 mX7_loansOf [zR 128, zI a1] h (fun r h' => r = some (zI (sCnt (h 129) a1 (h 129 132).toNat)) ∧ h = h') := by
  refine zSp_of (by decide +kernel) (Nat.le_of_ble_eq_true rfl) rfl (fun Γ => k_X7_loansOf_0  (by decide) ?_)
  exact c_X7_loansOf_l hn ⟨rfl, rfl⟩ (h 129 132).toNat 0 (by omega) ⟨Int.le_refl _, Int.le_refl _⟩
theorem c_X7_sum_l {Post : Option zA → zH → Prop} {Γ : zCx} {h : zH} {v1 v2 v3 : Int} (h3 : 0 ≤ v3 ∧ v3 ≤ 4) (hn : 0 ≤ h 129 132 ∧ h 129 132 ≤ 40) (hl : ∀ x : Int, 0 ≤ x → x < h 129 132 → 0 ≤ h 129 (136 + 5 * x + 4).toNat ∧ h 129 (136 + 5 * x + 4).toNat ≤ 64) (hp : Post (some (zI (sSum (h 129) v1 v2 v3 (h 129 132).toNat))) h) : ∀ n m : Nat, n + m = (h 129 132).toNat → 0 ≤ sSum (h 129) v1 v2 v3 m ∧ sSum (h 129) v1 v2 v3 m ≤ 64 * m → (fun (d : Nat) => zV RX7 cX7_sum 6 (some .int) d Post Γ 6 [(0, zR 128), (1, zI v1), (2, zI v2), (3, zI v3), (4, zI (sSum (h 129) v1 v2 v3 m)), (5, zI (m : Int))] [] h) 2 := by
  intro n
  induction n with
  | zero =>
    intro m hm hc
    refine k_X7_sum_6 (by decide) ⟨fun c => ?_, fun c => absurd c (by omega)⟩
    rw [show (h 129 132).toNat = m by omega] at hp
    exact hp
  | succ n ih =>
    intro m hm hc
    have hl2 := hl (m : Int) (by omega) (by omega)
    refine k_X7_sum_6 (by decide) ⟨fun c => absurd c (by omega), fun c => ⟨by omega, by omega, by omega, fun c2 => ?_, fun c2 => ⟨by omega, h3, by omega, by omega, fun c3 => ?_, fun c3 => ⟨by omega, by omega, by omega, ?_⟩⟩⟩⟩
    · intro y ey x e
      have := ih (m + 1) (by omega)
      unfold sSum at this
      rw [if_neg (fun q => c2 q.1)] at this
      rw [zstep e (by omega), ey, zwr_eq (by omega) (by omega)]
      exact this (by omega)
    · intro y ey x e
      have := ih (m + 1) (by omega)
      unfold sSum at this
      rw [if_neg (fun q => c3 q.2)] at this
      rw [zstep e (by omega), ey, zwr_eq (by omega) (by omega)]
      exact this (by omega)
    · intro y ey x e
      have := ih (m + 1) (by omega)
      unfold sSum at this
      rw [if_pos ⟨c2, c3⟩] at this
      rw [zstep e (by omega), ey, zwr_eq (by omega) (by omega)]
      exact this (by omega)
theorem c_X7_sum {h : zH} {a1 a2 a3 : Int} (h3 : 0 ≤ a3 ∧ a3 ≤ 4) (hn : 0 ≤ h 129 132 ∧ h 129 132 ≤ 40) (hl : ∀ x : Int, 0 ≤ x → x < h 129 132 → 0 ≤ h 129 (136 + 5 * x + 4).toNat ∧ h 129 (136 + 5 * x + 4).toNat ≤ 64) : zSp 2 mX7_sum [zR 128, zI a1, zI a2, zI a3] h (fun r h' => r = some (zI (sSum (h 129) a1 a2 a3 (h 129 132).toNat)) ∧ h = h') := by
  refine zSp_of (by decide +kernel) (Nat.le_of_ble_eq_true rfl) rfl (fun Γ => k_X7_sum_0  (by decide) ?_)
  exact c_X7_sum_l h3 hn hl ⟨rfl, rfl⟩ (h 129 132).toNat 0 (by omega) ⟨Int.le_refl _, Int.le_refl _⟩
theorem c_X7_agentsOf_l {Post : Option zA → zH → Prop} {Γ : zCx} {h : zH} {v1 v2 : Int} (h1 : 0 ≤ v1 ∧ v1 ≤ 5) (hh : ∀ a : Int, 0 ≤ a → a ≤ 5 → 0 ≤ h 129 (36 + 6 * v1 + a).toNat ∧ h 129 (36 + 6 * v1 + a).toNat ≤ 1) (hp : Post (some (zI (sAg (h 129) v1 v2 6))) h) : ∀ n m : Nat, n + m = 6 → 0 ≤ sAg (h 129) v1 v2 m ∧ sAg (h 129) v1 v2 m ≤ m → (fun (d : Nat) => zV RX7 cX7_agentsOf 5 (some .int) d Post Γ 5 [(0, zR 128), (1, zI v1), (2, zI v2), (3, zI (sAg (h 129) v1 v2 m)), (4, zI (m : Int))] [] h) 2 := by
  intro n
  induction n with
  | zero =>
    intro m hm hc
    refine k_X7_agentsOf_5 (by decide) ⟨fun c => ?_, fun c => absurd c (by omega)⟩
    rw [show 6 = m by omega] at hp
    exact hp
  | succ n ih =>
    intro m hm hc
    have hh2 := hh (m : Int) (by omega) (by omega)
    refine k_X7_agentsOf_5 (by decide) ⟨fun c => absurd c (by omega), fun c => ⟨fun c2 => ⟨by omega, h1, by omega, by omega, fun c3 => ?_, fun c3 => ?_⟩, fun c2 => ⟨by omega, h1, by omega, by omega, ?_⟩⟩⟩
    · intro y ey x e
      have := ih (m + 1) (by omega)
      unfold sAg at this
      rw [if_neg c2, if_neg (by omega)] at this
      rw [zstep e (by omega), ey, zwr_eq (by omega) (by omega)]
      exact this (by omega)
    · intro y ey x e
      have := ih (m + 1) (by omega)
      unfold sAg at this
      rw [if_neg c2, if_pos (by omega)] at this
      rw [zstep e (by omega), ey, zwr_eq (by omega) (by omega)]
      exact this (by omega)
    · intro y ey x e
      have := ih (m + 1) (by omega)
      unfold sAg at this
      rw [if_pos c2] at this
      rw [zstep e (by omega), ey, zwr_eq (by omega) (by omega)]
      exact this (by omega)
theorem c_X7_agentsOf {h : zH} {a1 a2 : Int} (h1 : 0 ≤ a1 ∧ a1 ≤ 5) (hh : ∀ a : Int, 0 ≤ a → a ≤ 5 → 0 ≤ h 129 (36 + 6 * a1 + a).toNat ∧ h 129 (36 + 6 * a1 + a).toNat ≤ 1) : zSp 2 mX7_agentsOf [zR 128, zI a1, zI a2] h (fun r h' => r = some (zI (sAg (h 129) a1 a2 6)) ∧ h = h') := by
  refine zSp_of (by decide +kernel) (Nat.le_of_ble_eq_true rfl) rfl (fun Γ => k_X7_agentsOf_0  (by decide) ?_)
  exact c_X7_agentsOf_l h1 hh ⟨rfl, rfl⟩ 6 0 rfl ⟨Int.le_refl _, Int.le_refl _⟩
theorem c_X7_wholeOf_l {Post : Option zA → zH → Prop} {Γ : zCx} {h : zH} {v1 : Int} (h1 : 0 ≤ v1 ∧ v1 ≤ 5) (hp : Post (some (zI (sWh (h 129) v1 6))) h) : ∀ n m : Nat, n + m = 6 → (fun (d : Nat) => zV RX7 cX7_wholeOf 4 (some .int) d Post Γ 5 [(0, zR 128), (1, zI v1), (2, zI (sWh (h 129) v1 m)), (3, zI (m : Int))] [] h) 2 := by
  intro n
  induction n with
  | zero =>
    intro m hm
    refine k_X7_wholeOf_5 (by decide) ⟨fun c => ?_, fun c => absurd c (by omega)⟩
    rw [show 6 = m by omega] at hp
    exact hp
  | succ n ih =>
    intro m hm
    refine k_X7_wholeOf_5 (by decide) ⟨fun c => absurd c (by omega), fun c => ⟨by omega, h1, by omega, by omega, fun c2 => ?_, fun c2 => ?_⟩⟩
    · intro x e
      have := ih (m + 1) (by omega)
      unfold sWh at this
      rw [if_neg c2] at this
      rw [zstep e (by omega)]
      exact this
    · intro x e
      have := ih (m + 1) (by omega)
      unfold sWh at this
      rw [if_pos c2] at this
      rw [zstep e (by omega)]
      exact this
theorem c_X7_wholeOf {h : zH} {a1 : Int} (h1 : 0 ≤ a1 ∧ a1 ≤ 5) : zSp 2 mX7_wholeOf [zR 128, zI a1] h (fun r h' => r = some (zI (sWh (h 129) a1 6)) ∧ h = h') := by
  refine zSp_of (by decide +kernel) (Nat.le_of_ble_eq_true rfl) rfl (fun Γ => k_X7_wholeOf_0  (by decide) ?_)
  exact c_X7_wholeOf_l h1 ⟨rfl, rfl⟩ 6 0 rfl
