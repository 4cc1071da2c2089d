/-! what the class tells of a state -/
theorem c_J6_l : ∀ v : Nat, v < 64 → zand (zwr (zwr (zand (zwr (zwr (zand (zwr ((v : Int) - zand (zushr (v : Int) 1) 1431655765)) 858993459 + zand (zushr (zwr ((v : Int) - zand (zushr (v : Int) 1) 1431655765)) 2) 858993459) + zushr (zwr (zand (zwr ((v : Int) - zand (zushr (v : Int) 1) 1431655765)) 858993459 + zand (zushr (zwr ((v : Int) - zand (zushr (v : Int) 1) 1431655765)) 2) 858993459)) 4)) 252645135 + zushr (zand (zwr (zwr (zand (zwr ((v : Int) - zand (zushr (v : Int) 1) 1431655765)) 858993459 + zand (zushr (zwr ((v : Int) - zand (zushr (v : Int) 1) 1431655765)) 2) 858993459) + zushr (zwr (zand (zwr ((v : Int) - zand (zushr (v : Int) 1) 1431655765)) 858993459 + zand (zushr (zwr ((v : Int) - zand (zushr (v : Int) 1) 1431655765)) 2) 858993459)) 4)) 252645135) 8) + zushr (zwr (zand (zwr (zwr (zand (zwr ((v : Int) - zand (zushr (v : Int) 1) 1431655765)) 858993459 + zand (zushr (zwr ((v : Int) - zand (zushr (v : Int) 1) 1431655765)) 2) 858993459) + zushr (zwr (zand (zwr ((v : Int) - zand (zushr (v : Int) 1) 1431655765)) 858993459 + zand (zushr (zwr ((v : Int) - zand (zushr (v : Int) 1) 1431655765)) 2) 858993459)) 4)) 252645135 + zushr (zand (zwr (zwr (zand (zwr ((v : Int) - zand (zushr (v : Int) 1) 1431655765)) 858993459 + zand (zushr (zwr ((v : Int) - zand (zushr (v : Int) 1) 1431655765)) 2) 858993459) + zushr (zwr (zand (zwr ((v : Int) - zand (zushr (v : Int) 1) 1431655765)) 858993459 + zand (zushr (zwr ((v : Int) - zand (zushr (v : Int) 1) 1431655765)) 2) 858993459)) 4)) 252645135) 8)) 16)) 63 = (pc6 v : Int) := by decide +kernel
theorem c_J6_bitCount {h : zH} {v : Nat} (hv : v < 64) : zSp 1 mJ6_bitCount_0f7a4 [zI (v : Int)] h (fun q h' => q = some (zI (pc6 v : Int)) ∧ h = h') := by
  refine zSp_of (by decide +kernel) (Nat.le_of_ble_eq_true rfl) rfl (fun Γ => k_J6_bitCount_0f7a4_0  (by decide) ?_)
  rintro _ rfl
  rintro _ rfl
  rintro _ rfl
  rintro _ rfl
  rintro _ rfl
  rw [c_J6_l v hv]
  exact ⟨rfl, rfl⟩
theorem pc6_ag {s : zs} {h : zH} {b : Nat} {c : Int} (r : Rep s h b) (hh : WFh s) (hc : 0 ≤ c ∧ c ≤ 5) : ((pc6 (h (b + 5) c.toNat).toNat : Nat) : Int) = sAg s c 8 6 := by
  have q := (r.b c hc).2
  have bit : ∀ i : Nat, i < 6 → (((h (b + 5) c.toNat).toNat.testBit i).toNat : Int) = s (36 + 6 * c + (i : Int)).toNat := by
    intro i hi
    have q1 := q (i : Int) (by omega)
    have q2 := (hh (i : Int) c (by omega) hc).2
    rw [Int.toNat_natCast] at q1
    cases hb : (h (b + 5) c.toNat).toNat.testBit i
    · rw [hb] at q1
      have : ¬ s (36 + 6 * c + (i : Int)).toNat = 1 := fun z => by have := q1.mpr z; cases this
      show (0 : Int) = _
      omega
    · rw [hb] at q1
      show (1 : Int) = _
      exact (q1.mp rfl).symm
  have b0 := bit 0 (by omega)
  have b1 := bit 1 (by omega)
  have b2 := bit 2 (by omega)
  have b3 := bit 3 (by omega)
  have b4 := bit 4 (by omega)
  have b5 := bit 5 (by omega)
  unfold pc6 sAg sAg sAg sAg sAg sAg sAg
  simp only [if_true]
  omega
theorem c_X4_countHolding {B : Int} {h : zH} {b : Nat} {s : zs} {c : Int} (hb : zSt b) (r : Rep s h b) (hW : WF B s) (hc : 0 ≤ c ∧ c ≤ 5) : zSp 2 mX4_countHolding [zR b, zI c] h (fun q h' => q = some (zI (sAg s c 8 6)) ∧ h = h') := by
  refine zSp_of (by decide +kernel) (Nat.le_of_ble_eq_true rfl) rfl (fun Γ => k_X4_countHolding_0 hb (by decide) ?_)
  have q := (r.b c hc).1
  refine ⟨by omega, by omega, ?_⟩
  have e : h (b + 5) c.toNat = (((h (b + 5) c.toNat).toNat : Nat) : Int) := by omega
  rw [e]
  refine ⟨1, _, by decide, c_J6_bitCount (v := (h (b + 5) c.toNat).toNat) (by omega), ?_⟩
  rintro _ _ ⟨rfl, rfl⟩
  refine ⟨_, rfl, ?_⟩
  rw [pc6_ag r hW.h hc]
  exact ⟨rfl, rfl⟩
theorem sAg_bd {s : zs} (hh : WFh s) {c w : Int} (hc : 0 ≤ c ∧ c ≤ 5) : ∀ n : Nat, n ≤ 6 → 0 ≤ sAg s c w n ∧ sAg s c w n ≤ n := by
  intro n
  induction n with
  | zero => intro _; exact ⟨Int.le_refl _, Int.le_refl _⟩
  | succ n ih =>
    intro hn
    have i := ih (by omega)
    have q := (hh (n : Int) c (by omega) hc).2
    unfold sAg
    split
    · omega
    · split <;> omega
theorem c_X4_countReaders_l {B : Int} {Post : Option zA → zH → Prop} {Γ : zCx} {h : zH} {b : Nat} {s : zs} {c : Int} (hb : zSt b) (r : Rep s h b) (hW : WF B s) (hc : 0 ≤ c ∧ c ≤ 5) (hp : Post (some (zI (sAg s c 3 6))) h) : ∀ n m : Nat, n + m = 6 → (fun (d : Nat) => zV RX4 cX4_countReaders 4 (some .int) d Post Γ 4 [(0, zR b), (1, zI c), (2, zI (sAg s c 3 m)), (3, zI (m : Int))] [] h) 2 := by
  intro n
  induction n with
  | zero =>
    intro m hm
    refine k_X4_countReaders_4 hb (by decide) ⟨fun _ => ?_, fun q => absurd q (by omega)⟩
    rw [show 6 = m by omega] at hp
    exact hp
  | succ n ih =>
    intro m hm
    have i := sAg_bd hW.h (w := 3) hc m (by omega)
    refine k_X4_countReaders_4 hb (by decide) ⟨fun q => absurd q (by omega), fun _ => ⟨by omega, hc, ?_⟩⟩
    rw [r.h (m : Int) c (by omega) hc]
    have := ih (m + 1) (by omega)
    unfold sAg at this
    rw [if_neg (by decide)] at this
    refine ⟨fun c2 => ?_, fun c2 => ?_⟩
    · intro x e
      rw [if_neg (by omega), show sAg s c 3 m + 0 = sAg s c 3 m by omega] at this
      rw [zstep e (by omega)]
      exact this
    · intro y ey x e
      rw [if_pos (by omega)] at this
      rw [zstep e (by omega), ey, zwr_eq (by omega) (by omega)]
      exact this
theorem c_X4_countReaders {B : Int} {h : zH} {b : Nat} {s : zs} {c : Int} (hb : zSt b) (r : Rep s h b) (hW : WF B s) (hc : 0 ≤ c ∧ c ≤ 5) : zSp 2 mX4_countReaders [zR b, zI c] h (fun q h' => q = some (zI (sAg s c 3 6)) ∧ h = h') := by
  refine zSp_of (by decide +kernel) (Nat.le_of_ble_eq_true rfl) rfl (fun Γ => k_X4_countReaders_0 hb (by decide) ?_)
  exact c_X4_countReaders_l hb r hW hc ⟨rfl, rfl⟩ 6 0 rfl
theorem sWh_none {s : zs} {c : Int} : ∀ n : Nat, (∀ k : Nat, k < n → s (6 * c + (k : Int)).toNat ≠ 64) → sWh s c n = -5 := by
  intro n
  induction n with
  | zero => intro _; rfl
  | succ n ih =>
    intro h
    unfold sWh
    rw [if_neg (h n (by omega)), ih (fun k hk => h k (by omega))]
theorem sWh_at {s : zs} {c : Int} {m : Nat} : ∀ n : Nat, m < n → s (6 * c + (m : Int)).toNat = 64 → (∀ k : Nat, m < k → k < n → s (6 * c + (k : Int)).toNat ≠ 64) → sWh s c n = (m : Int) := by
  intro n
  induction n with
  | zero => intro h; omega
  | succ n ih =>
    intro h1 h2 h3
    unfold sWh
    by_cases e : m = n
    · rw [← e, if_pos h2]
    · rw [if_neg (h3 n (by omega) (by omega)), ih (by omega) h2 (fun k k1 k2 => h3 k k1 (by omega))]
theorem whole_one {B : Int} {s : zs} {c : Int} (hW : WF B s) (hc : 0 ≤ c ∧ c ≤ 5) {m k : Nat} (hm : m < k) (hk : k < 6) (h1 : s (6 * c + (m : Int)).toNat = 64) : s (6 * c + (k : Int)).toNat ≠ 64 := by
  have q := hW.s c hc
  have h0 := (hW.h 0 c (by omega) hc).1
  have h1' := (hW.h 1 c (by omega) hc).1
  have h2 := (hW.h 2 c (by omega) hc).1
  have h3 := (hW.h 3 c (by omega) hc).1
  have h4 := (hW.h 4 c (by omega) hc).1
  have h5 := (hW.h 5 c (by omega) hc).1
  unfold sum6 at q
  intro h6
  have gm : ∃ mi : Int, mi = (m : Int) := ⟨_, rfl⟩
  have gk : ∃ ki : Int, ki = (k : Int) := ⟨_, rfl⟩
  obtain ⟨mi, em⟩ := gm
  obtain ⟨ki, ek⟩ := gk
  rw [← em] at h1
  rw [← ek] at h6
  rcases (show mi = 0 ∨ mi = 1 ∨ mi = 2 ∨ mi = 3 ∨ mi = 4 by omega) with e | e | e | e | e <;> rcases (show ki = 1 ∨ ki = 2 ∨ ki = 3 ∨ ki = 4 ∨ ki = 5 by omega) with e2 | e2 | e2 | e2 | e2 <;> rw [e] at h1 em <;> rw [e2] at h6 ek <;> omega
theorem c_X4_holderOfWhole_l {B : Int} {Post : Option zA → zH → Prop} {Γ : zCx} {h : zH} {b : Nat} {s : zs} {c : Int} (hb : zSt b) (r : Rep s h b) (hW : WF B s) (hc : 0 ≤ c ∧ c ≤ 5) (hp : Post (some (zI (sWh s c 6))) h) : ∀ n m : Nat, n + m = 6 → (∀ k : Nat, k < m → s (6 * c + (k : Int)).toNat ≠ 64) → (fun (d : Nat) => zV RX4 cX4_holderOfWhole 3 (some .int) d Post Γ 2 [(0, zR b), (1, zI c), (2, zI (m : Int))] [] h) 2 := by
  intro n
  induction n with
  | zero =>
    intro m hm hne
    refine k_X4_holderOfWhole_2 hb (by decide) ⟨fun _ => ?_, fun q => absurd q (by omega)⟩
    rw [show 6 = m by omega, sWh_none m hne] at hp
    exact hp
  | succ n ih =>
    intro m hm hne
    refine k_X4_holderOfWhole_2 hb (by decide) ⟨fun q => absurd q (by omega), fun _ => ⟨by omega, hc, ?_⟩⟩
    rw [r.h (m : Int) c (by omega) hc]
    refine ⟨fun c2 => ?_, fun c2 => ?_⟩
    · intro x e
      rw [zstep e (by omega)]
      refine ih (m + 1) (by omega) (fun k hk => ?_)
      by_cases e2 : k = m
      · rw [e2]; exact c2
      · exact hne k (by omega)
    · rw [sWh_at 6 (by omega) c2 (fun k k1 k2 => whole_one hW hc k1 k2 c2)] at hp
      exact hp
theorem c_X4_holderOfWhole {B : Int} {h : zH} {b : Nat} {s : zs} {c : Int} (hb : zSt b) (r : Rep s h b) (hW : WF B s) (hc : 0 ≤ c ∧ c ≤ 5) : zSp 2 mX4_holderOfWhole [zR b, zI c] h (fun q h' => q = some (zI (sWh s c 6)) ∧ h = h') := by
  refine zSp_of (by decide +kernel) (Nat.le_of_ble_eq_true rfl) rfl (fun Γ => k_X4_holderOfWhole_0 hb (by decide) ?_)
  exact c_X4_holderOfWhole_l hb r hW hc ⟨rfl, rfl⟩ 6 0 rfl (fun k hk => absurd hk (by omega))
/-- what 'count' adds up over the cells: 2 whole cells, 3 claims, else who hold on -/
def sTerm (s : zs) (w c : Int) : Int := if w = 2 then (if sWh s c 6 = -5 then 0 else 1) else if w = 3 then s (108 + c).toNat else sAg s c 8 6
def sSumC (s : zs) (w : Int) : Nat → Int
  | 0 => 0
  | n + 1 => sSumC s w n + sTerm s w (n : Int)
theorem sTerm_bd {B : Int} {s : zs} (hW : WF B s) {w c : Int} (hc : 0 ≤ c ∧ c ≤ 5) : 0 ≤ sTerm s w c ∧ sTerm s w c ≤ 6 := by
  have i := sAg_bd hW.h (w := 8) hc 6 (by omega)
  have q := (hW.c c hc).1
  unfold sTerm
  repeat' split
  all_goals omega
theorem sSumC_bd {B : Int} {s : zs} (hW : WF B s) {w : Int} : ∀ n : Nat, n ≤ 6 → 0 ≤ sSumC s w n ∧ sSumC s w n ≤ 6 * n := by
  intro n
  induction n with
  | zero => intro _; exact ⟨Int.le_refl _, Int.le_refl _⟩
  | succ n ih =>
    intro hn
    have i := ih (by omega)
    have q := sTerm_bd hW (w := w) (c := (n : Int)) (by omega)
    unfold sSumC
    omega
theorem c_X4_countWholeCells_l {B : Int} {Post : Option zA → zH → Prop} {Γ : zCx} {h : zH} {b : Nat} {s : zs} (hb : zSt b) (r : Rep s h b) (hW : WF B s) (hp : Post (some (zI (sSumC s 2 6))) h) : ∀ n m : Nat, n + m = 6 → (fun (d : Nat) => zV RX4 cX4_countWholeCells 3 (some .int) d Post Γ 4 [(0, zR b), (1, zI (sSumC s 2 m)), (2, zI (m : Int))] [] h) 3 := by
  intro n
  induction n with
  | zero =>
    intro m hm
    refine k_X4_countWholeCells_4 hb (by decide) ⟨fun _ => ?_, fun q => absurd q (by omega)⟩
    rw [show 6 = m by omega] at hp
    exact hp
  | succ n ih =>
    intro m hm
    have i := sSumC_bd hW (w := 2) m (by omega)
    have := ih (m + 1) (by omega)
    unfold sSumC sTerm at this
    rw [if_pos rfl] at this
    refine k_X4_countWholeCells_4 hb (by decide) ⟨fun q => absurd q (by omega), fun _ => ?_⟩
    refine ⟨2, _, by decide, c_X4_holderOfWhole hb r hW (by omega), ?_⟩
    rintro _ _ ⟨rfl, rfl⟩
    refine ⟨_, rfl, fun c2 => ?_, fun c2 => ?_⟩
    · intro x e
      rw [if_pos c2, show sSumC s 2 m + 0 = sSumC s 2 m by omega] at this
      rw [zstep e (by omega)]
      exact this
    · intro y ey x e
      rw [if_neg c2] at this
      rw [zstep e (by omega), ey, zwr_eq (by omega) (by omega)]
      exact this
theorem c_X4_countWholeCells {B : Int} {h : zH} {b : Nat} {s : zs} (hb : zSt b) (r : Rep s h b) (hW : WF B s) : zSp 3 mX4_countWholeCells [zR b] h (fun q h' => q = some (zI (sSumC s 2 6)) ∧ h = h') := by
  refine zSp_of (by decide +kernel) (Nat.le_of_ble_eq_true rfl) rfl (fun Γ => k_X4_countWholeCells_0 hb (by decide) ?_)
  exact c_X4_countWholeCells_l hb r hW ⟨rfl, rfl⟩ 6 0 rfl
theorem c_X4_countAllHolding_l {B : Int} {Post : Option zA → zH → Prop} {Γ : zCx} {h : zH} {b : Nat} {s : zs} (hb : zSt b) (r : Rep s h b) (hW : WF B s) (hp : Post (some (zI (sSumC s 6 6))) h) : ∀ n m : Nat, n + m = 6 → (fun (d : Nat) => zV RX4 cX4_countAllHolding 3 (some .int) d Post Γ 4 [(0, zR b), (1, zI (sSumC s 6 m)), (2, zI (m : Int))] [] h) 3 := by
  intro n
  induction n with
  | zero =>
    intro m hm
    refine k_X4_countAllHolding_4 hb (by decide) ⟨fun _ => ?_, fun q => absurd q (by omega)⟩
    rw [show 6 = m by omega] at hp
    exact hp
  | succ n ih =>
    intro m hm
    have i := sSumC_bd hW (w := 6) m (by omega)
    have i2 := sAg_bd hW.h (w := 8) (c := (m : Int)) (by omega) 6 (by omega)
    have := ih (m + 1) (by omega)
    unfold sSumC sTerm at this
    rw [if_neg (by decide), if_neg (by decide)] at this
    refine k_X4_countAllHolding_4 hb (by decide) ⟨fun q => absurd q (by omega), fun _ => ?_⟩
    refine ⟨2, _, by decide, c_X4_countHolding hb r hW (by omega), ?_⟩
    rintro _ _ ⟨rfl, rfl⟩
    refine ⟨_, rfl, ?_⟩
    intro y ey x e
    rw [zstep e (by omega), ey, zwr_eq (by omega) (by omega)]
    exact this
theorem c_X4_countAllHolding {B : Int} {h : zH} {b : Nat} {s : zs} (hb : zSt b) (r : Rep s h b) (hW : WF B s) : zSp 3 mX4_countAllHolding [zR b] h (fun q h' => q = some (zI (sSumC s 6 6)) ∧ h = h') := by
  refine zSp_of (by decide +kernel) (Nat.le_of_ble_eq_true rfl) rfl (fun Γ => k_X4_countAllHolding_0 hb (by decide) ?_)
  exact c_X4_countAllHolding_l hb r hW ⟨rfl, rfl⟩ 6 0 rfl
theorem c_X0_sizeOfAll_l {B : Int} {Post : Option zA → zH → Prop} {Γ : zCx} {h : zH} {b : Nat} {s : zs} (hb : zSt b) (r : Rep s h b) (hW : WF B s) (hp : Post (some (zI (sSumC s 3 6))) h) : ∀ n m : Nat, n + m = 6 → (fun (d : Nat) => zV RX0 cX0_sizeOfAll 3 (some .int) d Post Γ 4 [(0, zR (b + 6)), (1, zI (sSumC s 3 m)), (2, zI (m : Int))] [] h) 1 := by
  intro n
  induction n with
  | zero =>
    intro m hm
    refine k_X0_sizeOfAll_4 hb (by decide) ⟨fun _ => ?_, fun q => absurd q (by omega)⟩
    rw [show 6 = m by omega] at hp
    exact hp
  | succ n ih =>
    intro m hm
    have i := sSumC_bd hW (w := 3) m (by omega)
    have i2 := (hW.c (m : Int) (by omega)).1
    have := ih (m + 1) (by omega)
    unfold sSumC sTerm at this
    rw [if_neg (by decide), if_pos rfl] at this
    refine k_X0_sizeOfAll_4 hb (by decide) ⟨fun q => absurd q (by omega), fun _ => ⟨by omega, by omega, ?_⟩⟩
    rw [(r.v (m : Int) (by omega)).2.2.2]
    intro y ey x e
    rw [zstep e (by omega), ey, zwr_eq (by omega) (by omega)]
    exact this
theorem c_X0_sizeOfAll {B : Int} {h : zH} {b : Nat} {s : zs} (hb : zSt b) (r : Rep s h b) (hW : WF B s) : zSp 1 mX0_sizeOfAll [zR (b + 6)] h (fun q h' => q = some (zI (sSumC s 3 6)) ∧ h = h') := by
  refine zSp_of (by decide +kernel) (Nat.le_of_ble_eq_true rfl) rfl (fun Γ => k_X0_sizeOfAll_0 hb (by decide) ?_)
  exact c_X0_sizeOfAll_l hb r hW ⟨rfl, rfl⟩ 6 0 rfl
