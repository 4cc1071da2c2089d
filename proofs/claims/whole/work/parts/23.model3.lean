/-! contracts of the reference's small methods: claims, copies, history, the stack of gatherings -/
theorem c_X7_placeOfClaim_l {Post : Option zA → zH → Prop} {Γ : zCx} {h : zH} {v1 v2 : Int} (h2 : 0 ≤ v2 ∧ v2 ≤ 5) (hn : 0 ≤ h 129 (108 + v2).toNat ∧ h 129 (108 + v2).toNat ≤ 6) (hp : Post (some (zI (sPc (h 129) v1 v2 (h 129 (108 + v2).toNat).toNat))) h) : ∀ n m : Nat, n + m = (h 129 (108 + v2).toNat).toNat → (fun (d : Nat) => zV RX7 cX7_placeOfClaim 5 (some .int) d Post Γ 6 [(0, zR 128), (1, zI v1), (2, zI v2), (3, zI (sPc (h 129) v1 v2 m)), (4, zI (m : Int))] [] h) 1 := by
  intro n
  induction n with
  | zero =>
    intro m hm
    refine k_X7_placeOfClaim_6 (by decide) ?_
    rw [zwr_eq (a := 108 + v2) (by omega) (by omega)]
    refine ⟨by omega, by omega, fun c => ?_, fun c => absurd c (by omega)⟩
    rw [show (h 129 (108 + v2).toNat).toNat = m by omega] at hp
    exact hp
  | succ n ih =>
    intro m hm
    refine k_X7_placeOfClaim_6 (by decide) ?_
    rw [zwr_eq (a := 108 + v2) (by omega) (by omega)]
    rw [show zwr (zwr (72 + zwr (6 * v2)) + (m : Int)) = 72 + 6 * v2 + (m : Int) by simp (disch := omega) only [zwr_eq]]
    refine ⟨by omega, by omega, fun c => absurd c (by omega), fun c => ⟨by omega, by omega, fun c2 => ?_, fun c2 => ?_⟩⟩
    · intro x e
      have := ih (m + 1) (by omega)
      unfold sPc at this
      rw [if_neg c2] at this
      rw [zstep e (by omega)]
      exact this
    · intro x e
      have := ih (m + 1) (by omega)
      unfold sPc at this
      rw [if_pos c2] at this
      rw [zstep e (by omega)]
      exact this
theorem c_X7_placeOfClaim {h : zH} {a1 a2 : Int} (h2 : 0 ≤ a2 ∧ a2 ≤ 5) (hn : 0 ≤ h 129 (108 + a2).toNat ∧ h 129 (108 + a2).toNat ≤ 6) : zSp 1 mX7_placeOfClaim [zR 128, zI a1, zI a2] h (fun r h' => r = some (zI (sPc (h 129) a1 a2 (h 129 (108 + a2).toNat).toNat)) ∧ h = h') := by
  refine zSp_of (by decide +kernel) (Nat.le_of_ble_eq_true rfl) rfl (fun Γ => k_X7_placeOfClaim_0  (by decide) ?_)
  exact c_X7_placeOfClaim_l h2 hn ⟨rfl, rfl⟩ (h 129 (108 + a2).toNat).toNat 0 (by omega)
theorem c_X7_dropClaim_l {Post : Option zA → zH → Prop} {Γ : zCx} {h0 : zH} {s : zs} {v1 v2 i : Int} (h1 : 0 ≤ v1 ∧ v1 ≤ 5) (hi : 0 ≤ i) (hn : 0 ≤ s (108 + v1).toNat ∧ s (108 + v1).toNat ≤ 5) (hp : Post none (zrow h0 129 (sShC s (72 + 6 * v1 + i) (72 + 6 * v1 + s (108 + v1).toNat)))) :
    ∀ (n : Nat) (v3 : Int), n = (s (108 + v1).toNat - v3).toNat → i ≤ v3 → v3 ≤ s (108 + v1).toNat → (fun (d : Nat) => zV RX7 cX7_dropClaim 4 none d Post Γ 15 [(0, zR 128), (1, zI v1), (2, zI v2), (3, zI v3)] [] (zrow h0 129 (sShC s (72 + 6 * v1 + i) (72 + 6 * v1 + v3)))) 1 := by
  have e108 : ∀ lim : Int, lim ≤ 72 + 6 * v1 + 5 → sShC s (72 + 6 * v1 + i) lim (108 + v1).toNat = s (108 + v1).toNat := fun lim hl => if_neg (by omega)
  intro n
  induction n with
  | zero =>
    intro v3 hm hlo hhi
    have ev : v3 = s (108 + v1).toNat := by omega
    refine k_X7_dropClaim_15 (by decide) ?_
    rw [zrow_get, zwr_eq (a := 108 + v1) (by omega) (by omega), e108 _ (by omega)]
    refine ⟨by omega, by omega, fun c => ?_, fun c => absurd c (by omega)⟩
    rw [ev]
    exact hp
  | succ n ih =>
    intro v3 hm hlo hhi
    refine k_X7_dropClaim_15 (by decide) ?_
    rw [zrow_get, zwr_eq (a := 108 + v1) (by omega) (by omega), e108 _ (by omega)]
    rw [show zwr (zwr (72 + zwr (6 * v1)) + v3) = 72 + 6 * v1 + v3 by simp (disch := omega) only [zwr_eq]]
    rw [zwr_eq (a := 72 + 6 * v1 + v3 + 1) (by omega) (by omega), zwr_eq (a := v3 + 1) (by omega) (by omega)]
    refine ⟨by omega, by omega, fun c => absurd c (by omega), fun c => ⟨by omega, by omega, by omega, by omega, ?_⟩⟩
    rintro _ rfl
    rintro _ rfl
    have e2 : zu (zrow h0 129 (sShC s (72 + 6 * v1 + i) (72 + 6 * v1 + v3))) 129 (72 + 6 * v1 + v3).toNat (sShC s (72 + 6 * v1 + i) (72 + 6 * v1 + v3) (72 + 6 * v1 + v3 + 1).toNat) = zrow h0 129 (sShC s (72 + 6 * v1 + i) (72 + 6 * v1 + (v3 + 1))) := by
      rw [zu_row, zrow_get, zrow_row]
      congr 1
      funext j
      unfold su sShC
      by_cases hj : j = (72 + 6 * v1 + v3).toNat
      · subst hj
        rw [if_pos rfl, if_neg (by omega), if_pos (by omega)]
        congr 1
        omega
      · rw [if_neg hj]
        by_cases hj2 : 72 + 6 * v1 + i ≤ (j : Int) ∧ (j : Int) < 72 + 6 * v1 + v3
        · rw [if_pos hj2, if_pos (by omega)]
        · rw [if_neg hj2, if_neg (by omega)]
    rw [e2]
    exact ih (v3 + 1) (by omega) (by omega) (by omega)
theorem c_X7_dropClaim {h : zH} {a1 a2 : Int} (h1 : 0 ≤ a1 ∧ a1 ≤ 5) (h2 : 0 ≤ a2 ∧ a2 < h 129 (108 + a1).toNat) (hn : h 129 (108 + a1).toNat ≤ 6) : zSp 1 mX7_dropClaim [zR 128, zI a1, zI a2] h (fun r h' => r = none ∧ h' = zrow h 129 (sDrop (h 129) a1 a2)) := by
  refine zSp_of (by decide +kernel) (Nat.le_of_ble_eq_true rfl) rfl (fun Γ => k_X7_dropClaim_0  (by decide) ?_)
  rw [zwr_eq (a := 108 + a1) (by omega) (by omega)]
  refine ⟨by omega, by omega, by omega, by omega, ?_⟩
  rintro _ rfl
  rw [zu_row]
  have e1 : sSub (h 129) (108 + a1).toNat 1 (108 + a1).toNat = h 129 (108 + a1).toNat - 1 := by
    unfold sSub
    rw [su_same, zwr_eq (by omega) (by omega)]
  have key := c_X7_dropClaim_l (Post := fun r h' => r = none ∧ h' = zrow h 129 (sDrop (h 129) a1 a2)) (Γ := Γ) (h0 := h) (s := sSub (h 129) (108 + a1).toNat 1) (v1 := a1) (v2 := a2) (i := a2) h1 h2.1 (by rw [e1]; omega) (by
    rw [e1]
    refine ⟨rfl, ?_⟩
    unfold sDrop
    rw [zwr_eq (a := h 129 (108 + a1).toNat - 1) (by omega) (by omega)]) _ a2 rfl (Int.le_refl _) (by rw [e1]; omega)
  have e0 : sShC (sSub (h 129) (108 + a1).toNat 1) (72 + 6 * a1 + a2) (72 + 6 * a1 + a2) = sSub (h 129) (108 + a1).toNat 1 := funext fun j => if_neg (by omega)
  rw [e0] at key
  exact key
theorem c_cp_l {h : zH} {k : Nat} {f g : zs} {m : Nat} (hm : m < 336) : zu (zrow h k (fun j => if j < m then f j else g j)) k m (f m) = zrow h k (fun j => if j < m + 1 then f j else g j) := by
  rw [zu_row, zrow_get, zrow_row]
  congr 1
  funext j
  unfold su
  by_cases hj : j = m
  · subst hj
    rw [if_pos rfl, if_pos (by omega)]
  · rw [if_neg hj]
    show (if j < m then f j else g j) = _
    by_cases hj2 : j < m
    · rw [if_pos hj2, if_pos (by omega)]
    · rw [if_neg hj2, if_neg (by omega)]
theorem c_cp_0 {h : zH} {k : Nat} {f : zs} : zrow h k (fun j => if j < 0 then f j else h k j) = h := by
  have : (fun j => if j < 0 then f j else h k j) = h k := funext fun j => if_neg (by omega)
  rw [this, zrow_self]
theorem c_X7_putAside_l {Post : Option zA → zH → Prop} {Γ : zCx} {h : zH} (hp : Post none (zrow h 130 (sCp (h 129) (h 130)))) : ∀ n m : Nat, n + m = 336 → (fun (d : Nat) => zV RX7 cX7_putAside 2 none d Post Γ 2 [(0, zR 128), (1, zI (m : Int))] [] (zrow h 130 (fun j => if j < m then h 129 j else h 130 j))) 1 := by
  intro n
  induction n with
  | zero =>
    intro m hm
    refine k_X7_putAside_2 (by decide) ⟨fun c => ?_, fun c => absurd c (by omega)⟩
    rw [show m = 336 by omega]
    exact hp
  | succ n ih =>
    intro m hm
    refine k_X7_putAside_2 (by decide) ⟨fun c => absurd c (by omega), fun c => ⟨by omega, by omega, by omega, by omega, ?_⟩⟩
    rintro _ rfl
    intro x e
    rw [zstep e (by omega), Int.toNat_natCast, zrow_ne _ _ (by decide), c_cp_l (by omega)]
    exact ih (m + 1) (by omega)
theorem c_X7_putAside {h : zH} : zSp 1 mX7_putAside [zR 128] h (fun r h' => r = none ∧ h' = zrow h 130 (sCp (h 129) (h 130))) := by
  refine zSp_of (by decide +kernel) (Nat.le_of_ble_eq_true rfl) rfl (fun Γ => k_X7_putAside_0  (by decide) ?_)
  have key := c_X7_putAside_l (Post := fun r h' => r = none ∧ h' = zrow h 130 (sCp (h 129) (h 130))) (Γ := Γ) (h := h) ⟨rfl, rfl⟩ 336 0 rfl
  rw [c_cp_0] at key
  exact key
theorem c_X7_putBack_l {Post : Option zA → zH → Prop} {Γ : zCx} {h : zH} (hp : Post none (zrow h 129 (sCp (h 130) (h 129)))) : ∀ n m : Nat, n + m = 336 → (fun (d : Nat) => zV RX7 cX7_putBack 2 none d Post Γ 2 [(0, zR 128), (1, zI (m : Int))] [] (zrow h 129 (fun j => if j < m then h 130 j else h 129 j))) 1 := by
  intro n
  induction n with
  | zero =>
    intro m hm
    refine k_X7_putBack_2 (by decide) ⟨fun c => ?_, fun c => absurd c (by omega)⟩
    rw [show m = 336 by omega]
    exact hp
  | succ n ih =>
    intro m hm
    refine k_X7_putBack_2 (by decide) ⟨fun c => absurd c (by omega), fun c => ⟨by omega, by omega, by omega, by omega, ?_⟩⟩
    rintro _ rfl
    intro x e
    rw [zstep e (by omega), Int.toNat_natCast, zrow_ne _ _ (by decide), c_cp_l (by omega)]
    exact ih (m + 1) (by omega)
theorem c_X7_putBack {h : zH} : zSp 1 mX7_putBack [zR 128] h (fun r h' => r = none ∧ h' = zrow h 129 (sCp (h 130) (h 129))) := by
  refine zSp_of (by decide +kernel) (Nat.le_of_ble_eq_true rfl) rfl (fun Γ => k_X7_putBack_0  (by decide) ?_)
  have key := c_X7_putBack_l (Post := fun r h' => r = none ∧ h' = zrow h 129 (sCp (h 130) (h 129))) (Γ := Γ) (h := h) ⟨rfl, rfl⟩ 336 0 rfl
  rw [c_cp_0] at key
  exact key
