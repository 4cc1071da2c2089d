/-! the reference's history, the stack of gatherings -/
def sKnow (B s : zs) (n : Int) : zs := fun j => if 336 * n ≤ (j : Int) ∧ (j : Int) < 336 * n + 336 then s (j - (336 * n).toNat) else B j
theorem c_X7_know_l51 {Post : Option zA → zH → Prop} {Γ : zCx} {h : zH} (hn : 0 ≤ h 128 4 ∧ h 128 4 ≤ 3) (hp : Post none (zu (zrow h 132 (sKnow (h 132) (h 129) (h 128 4))) 128 4 (h 128 4 + 1))) : ∀ n m : Nat, n + m = 336 → (fun (d : Nat) => zV RX7 cX7_know 2 none d Post Γ 51 [(0, zR 128), (1, zI (m : Int))] [] (zrow h 132 (fun j => if 336 * h 128 4 ≤ (j : Int) ∧ (j : Int) < 336 * h 128 4 + m then h 129 (j - (336 * h 128 4).toNat) else h 132 j))) 1 := by
  intro n
  induction n with
  | zero =>
    intro m hm
    have em : m = 336 := by omega
    subst em
    refine k_X7_know_51 (by decide) ⟨fun c => ?_, fun c => absurd c (by omega)⟩
    rintro _ rfl
    rw [zrow_ne _ _ (by decide), zwr_eq (by omega) (by omega)]
    exact hp
  | succ n ih =>
    intro m hm
    refine k_X7_know_51 (by decide) ⟨fun c => absurd c (by omega), fun c => ?_⟩
    rw [zrow_ne _ _ (by decide), zrow_ne _ _ (by decide)]
    rw [show zwr (zwr (336 * h 128 4) + (m : Int)) = 336 * h 128 4 + (m : Int) by simp (disch := omega) only [zwr_eq]]
    refine ⟨by omega, by omega, by omega, by omega, ?_⟩
    rintro _ rfl
    intro x e
    have e2 : zu (zrow h 132 (fun j => if 336 * h 128 4 ≤ (j : Int) ∧ (j : Int) < 336 * h 128 4 + m then h 129 (j - (336 * h 128 4).toNat) else h 132 j)) 132 (336 * h 128 4 + (m : Int)).toNat (h 129 (m : Int).toNat) = zrow h 132 (fun j => if 336 * h 128 4 ≤ (j : Int) ∧ (j : Int) < 336 * h 128 4 + ((m + 1 : Nat) : Int) then h 129 (j - (336 * h 128 4).toNat) else h 132 j) := by
      rw [zu_row, zrow_get, zrow_row]
      congr 1
      funext j
      unfold su
      by_cases hj : j = (336 * h 128 4 + (m : Int)).toNat
      · subst hj
        rw [if_pos rfl, if_pos (by omega)]
        congr 1
        omega
      · rw [if_neg hj]
        show (if 336 * h 128 4 ≤ (j : Int) ∧ (j : Int) < 336 * h 128 4 + m then h 129 (j - (336 * h 128 4).toNat) else h 132 j) = _
        by_cases hj2 : 336 * h 128 4 ≤ (j : Int) ∧ (j : Int) < 336 * h 128 4 + m
        · rw [if_pos hj2, if_pos (by omega)]
        · rw [if_neg hj2, if_neg (by omega)]
    rw [zstep e (by omega), e2]
    exact ih (m + 1) (by omega)
theorem c_X7_know_51 {Post : Option zA → zH → Prop} {Γ : zCx} {h : zH} (hn : 0 ≤ h 128 4 ∧ h 128 4 ≤ 3) (hp : Post none (zu (zrow h 132 (sKnow (h 132) (h 129) (h 128 4))) 128 4 (h 128 4 + 1))) : (fun (d : Nat) => zV RX7 cX7_know 2 none d Post Γ 51 [(0, zR 128), (1, zI 0)] [] h) 1 := by
  have key := c_X7_know_l51 (Γ := Γ) hn hp 336 0 rfl
  have e0 : (fun (j : Nat) => if 336 * h 128 4 ≤ (j : Int) ∧ (j : Int) < 336 * h 128 4 + ((0 : Nat) : Int) then h 129 (j - (336 * h 128 4).toNat) else h 132 j) = h 132 := funext fun j => if_neg (by omega)
  rw [e0, zrow_self] at key
  exact key
def sBack (B : zs) : zs := fun j => if j < 1008 then B (j + 336) else B j
theorem c_X7_know_l10 {Post : Option zA → zH → Prop} {Γ : zCx} {h : zH} (hn : h 128 4 = 4) (hp : Post none (zu (zrow h 132 (sKnow (sBack (h 132)) (h 129) 3)) 128 4 4)) : ∀ n m : Nat, n + m = 1008 → (fun (d : Nat) => zV RX7 cX7_know 2 none d Post Γ 10 [(0, zR 128), (1, zI (m : Int))] [] (zrow h 132 (fun j => if j < m then h 132 (j + 336) else h 132 j))) 1 := by
  intro n
  induction n with
  | zero =>
    intro m hm
    have em : m = 1008 := by omega
    subst em
    refine k_X7_know_10 (by decide) ⟨fun c => ?_, fun c => absurd c (by omega)⟩
    rintro _ rfl
    rw [zrow_ne _ _ (by decide), zwr_eq (by omega) (by omega), hn]
    have e1 : zu (zrow h 132 (sBack (h 132))) 128 4 3 128 4 = 3 := zu_same _ _ _ _
    refine c_X7_know_51 (h := zu (zrow h 132 (sBack (h 132))) 128 4 3) (by rw [e1]; omega) ?_
    rw [e1, zu_nekr _ _ _ (by decide), zrow_get, zu_nekr _ _ _ (by decide), zrow_ne _ _ (by decide)]
    have e2 : zu (zrow (zu (zrow h 132 (sBack (h 132))) 128 4 3) 132 (sKnow (sBack (h 132)) (h 129) 3)) 128 4 (3 + 1) = zu (zrow h 132 (sKnow (sBack (h 132)) (h 129) 3)) 128 4 4 := by
      funext k j
      simp only [zu, zrow]
      grind
    rw [e2]
    exact hp
  | succ n ih =>
    intro m hm
    refine k_X7_know_10 (by decide) ⟨fun c => absurd c (by omega), fun c => ?_⟩
    rw [zwr_eq (a := 336 + (m : Int)) (by omega) (by omega)]
    refine ⟨by omega, by omega, by omega, by omega, ?_⟩
    rintro _ rfl
    intro x e
    have e2 : zu (zrow h 132 (fun j => if j < m then h 132 (j + 336) else h 132 j)) 132 (m : Int).toNat (zrow h 132 (fun j => if j < m then h 132 (j + 336) else h 132 j) 132 (336 + (m : Int)).toNat) = zrow h 132 (fun j => if j < m + 1 then h 132 (j + 336) else h 132 j) := by
      rw [zu_row, zrow_get, zrow_row]
      congr 1
      funext j
      unfold su
      rw [Int.toNat_natCast]
      by_cases hj : j = m
      · rw [if_pos hj, hj, if_neg (by omega), if_pos (by omega)]
        congr 1
        omega
      · rw [if_neg hj]
        show (if j < m then h 132 (j + 336) else h 132 j) = _
        by_cases hj2 : j < m
        · rw [if_pos hj2, if_pos (by omega)]
        · rw [if_neg hj2, if_neg (by omega)]
    rw [zstep e (by omega), e2]
    exact ih (m + 1) (by omega)
/-- what the history row and its count are behind 'know' -/
def sKn (h : zH) : zH := if h 128 4 = 4 then zu (zrow h 132 (sKnow (sBack (h 132)) (h 129) 3)) 128 4 4 else zu (zrow h 132 (sKnow (h 132) (h 129) (h 128 4))) 128 4 (h 128 4 + 1)
theorem c_X7_know {h : zH} (hn : 0 ≤ h 128 4 ∧ h 128 4 ≤ 4) : zSp 1 mX7_know [zR 128] h (fun r h' => r = none ∧ h' = sKn h) := by
  refine zSp_of (by decide +kernel) (Nat.le_of_ble_eq_true rfl) rfl (fun Γ => k_X7_know_0  (by decide) ?_)
  refine ⟨fun c => ?_, fun c => ?_⟩
  · exact c_X7_know_51 (by omega) ⟨rfl, (if_neg c).symm⟩
  · have key := c_X7_know_l10 (Post := fun r h' => r = none ∧ h' = sKn h) (Γ := Γ) c ⟨rfl, (if_pos c).symm⟩ 1008 0 rfl
    have e0 : (fun (j : Nat) => if j < 0 then h 132 (j + 336) else h 132 j) = h 132 := funext fun j => if_neg (by omega)
    rw [e0, zrow_self] at key
    exact key
theorem c_X7_isGathering_l {Post : Option zA → zH → Prop} {Γ : zCx} {h : zH} {v1 : Int} (hn : 0 ≤ h 128 14 ∧ h 128 14 ≤ 7) (hp : ∀ x : Int, (x = 0 ∨ x = 1) → (x = 1 ↔ ∃ k : Nat, (k : Int) < h 128 14 ∧ h 135 k = v1) → Post (some (zI x)) h) : ∀ (n m : Nat) (x : Int), n + m = (h 128 14).toNat → (x = 0 ∨ x = 1) → (x = 1 ↔ ∃ k : Nat, k < m ∧ h 135 k = v1) → (fun (d : Nat) => zV RX7 cX7_isGathering 4 (some .boolean) d Post Γ 4 [(0, zR 128), (1, zI v1), (2, zI x), (3, zI (m : Int))] [] h) 1 := by
  intro n
  induction n with
  | zero =>
    intro m x hm hx hi
    refine k_X7_isGathering_4 (by decide) ⟨fun c => ⟨hx, hp x hx ?_⟩, fun c => absurd c (by omega)⟩
    rw [hi]
    constructor
    · rintro ⟨k, h1, h2⟩
      exact ⟨k, by omega, h2⟩
    · rintro ⟨k, h1, h2⟩
      exact ⟨k, by omega, h2⟩
  | succ n ih =>
    intro m x hm hx hi
    refine k_X7_isGathering_4 (by decide) ⟨fun c => absurd c (by omega), fun c => ⟨fun c2 => ?_, fun c2 => ⟨by omega, by omega, fun c3 => ?_, fun c3 => ?_⟩⟩⟩
    · intro y e
      rw [zstep e (by omega)]
      refine ih (m + 1) 1 (by omega) (Or.inr rfl) ⟨fun _ => ?_, fun _ => rfl⟩
      obtain ⟨k, h1, h2⟩ := hi.mp (by omega)
      exact ⟨k, by omega, h2⟩
    · intro y e
      rw [zstep e (by omega)]
      refine ih (m + 1) 0 (by omega) (Or.inl rfl) ⟨fun q => absurd q (by decide), fun ⟨k, h1, h2⟩ => ?_⟩
      by_cases hk : k = m
      · subst hk
        exact absurd h2 c3
      · have := hi.mpr ⟨k, by omega, h2⟩
        omega
    · intro y e
      rw [zstep e (by omega)]
      exact ih (m + 1) 1 (by omega) (Or.inr rfl) ⟨fun _ => ⟨m, by omega, c3⟩, fun _ => rfl⟩
theorem c_X7_isGathering {h : zH} {a1 : Int} (hn : 0 ≤ h 128 14 ∧ h 128 14 ≤ 7) : zSp 1 mX7_isGathering [zR 128, zI a1] h (fun r h' => (∃ x : Int, r = some (zI x) ∧ (x = 0 ∨ x = 1) ∧ (x = 1 ↔ ∃ k : Nat, (k : Int) < h 128 14 ∧ h 135 k = a1)) ∧ h = h') := by
  refine zSp_of (by decide +kernel) (Nat.le_of_ble_eq_true rfl) rfl (fun Γ => k_X7_isGathering_0  (by decide) ?_)
  exact c_X7_isGathering_l hn (fun x hx hi => ⟨⟨x, rfl, hx, hi⟩, rfl⟩) (h 128 14).toNat 0 0 (by omega) (Or.inl rfl) ⟨fun q => absurd q (by decide), fun ⟨k, h1, _⟩ => absurd h1 (by omega)⟩
theorem c_X7_enter {h : zH} {a1 : Int} (hn : 0 ≤ h 128 14 ∧ h 128 14 < 7) : zSp 1 mX7_enter [zR 128, zI a1] h (fun r h' => r = none ∧ h' = zu (zu (zu (zu h 135 (h 128 14).toNat a1) 136 (h 128 14).toNat 1000) 137 (h 128 14).toNat 0) 128 14 (h 128 14 + 1)) := by
  refine zSp_of (by decide +kernel) (Nat.le_of_ble_eq_true rfl) rfl (fun Γ => k_X7_enter_0  (by decide) ?_)
  refine ⟨hn.1, hn.2, ?_⟩
  rintro _ rfl
  rw [zu_nek _ _ _ _ (by decide)]
  refine ⟨hn.1, hn.2, ?_⟩
  rintro _ rfl
  rw [zu_nek _ _ _ _ (by decide), zu_nek _ _ _ _ (by decide)]
  refine ⟨hn.1, hn.2, ?_⟩
  rintro _ rfl
  rw [zu_nek _ _ _ _ (by decide), zu_nek _ _ _ _ (by decide), zu_nek _ _ _ _ (by decide), zwr_eq (by omega) (by omega)]
  rintro _ rfl
  exact ⟨rfl, rfl⟩
