/-! sums over loans; what would be gathered; what the model's scratch leaves alone -/
theorem sSum_bd {B : Int} {s : zs} (hW : WF B s) {a c w : Int} : ∀ n : Nat, (n : Int) ≤ s 132 → 0 ≤ sSum s a c w n ∧ sSum s a c w n ≤ 64 * n := by
  intro n
  induction n with
  | zero => intro _; exact ⟨Int.le_refl _, Int.le_refl _⟩
  | succ n ih =>
    intro hn
    have i := ih (by omega)
    have q := (hW.l (n : Int) (by omega) (by omega)).2.2.2.2
    unfold sSum
    split <;> omega
theorem c_X3_sumParts_l {B : Int} {Post : Option zA → zH → Prop} {Γ : zCx} {h : zH} {b q1 : Nat} {s : zs} {a c w : Int} (hb : zSt b) (hq : zArI q1 40) (r : Rep s h b) (hW : WF B s) (hw : ∀ x : Int, 0 ≤ x → x < s 132 → h q1 x.toNat = s (136 + 5 * x + w).toNat) (hp : Post (some (zI (sSum s a c w (s 132).toNat))) h) : ∀ n m : Nat, n + m = (s 132).toNat → (fun (d : Nat) => zV RX3 cX3_sumParts 6 (some .int) d Post Γ 6 [(0, zR (b + 9)), (1, zR q1), (2, zI a), (3, zI c), (4, zI (sSum s a c w m)), (5, zI (m : Int))] [] h) 1 := by
  obtain ⟨w1, w2, -⟩ := hW.n
  have hn := r.n.2.1
  intro n
  induction n with
  | zero =>
    intro m hm
    refine k_X3_sumParts_6 hb hq (by decide) ⟨fun z => ?_, fun z => absurd z (by omega)⟩
    rw [show (s 132).toNat = m by omega] at hp
    exact hp
  | succ n ih =>
    intro m hm
    have i := sSum_bd hW (a := a) (c := c) (w := w) m (by omega)
    have q := (hW.l (m : Int) (by omega) (by omega)).2.2.2.2
    have hl := r.l (m : Int) (by omega) (by omega)
    have := ih (m + 1) (by omega)
    unfold sSum at this
    refine k_X3_sumParts_6 hb hq (by decide) ⟨fun z => absurd z (by omega), fun z => ⟨by omega, by omega, ?_⟩⟩
    rw [hw (m : Int) (by omega) (by omega), hl.2.2.2.1, hl.2.2.2.2]
    refine ⟨fun c2 => ?_, fun c2 => ⟨by omega, by omega, fun c3 => ?_, fun c3 => ⟨by omega, by omega, ?_⟩⟩⟩
    · intro x e
      rw [if_neg (fun q => c2 q.2), show sSum s a c w m + 0 = sSum s a c w m by omega] at this
      rw [zstep e (by omega)]
      exact this
    · intro x e
      rw [if_neg (fun q => c3 q.1), show sSum s a c w m + 0 = sSum s a c w m by omega] at this
      rw [zstep e (by omega)]
      exact this
    · intro y ey x e
      rw [if_pos ⟨c3, c2⟩] at this
      rw [zstep e (by omega), ey, zwr_eq (by omega) (by omega)]
      exact this
theorem c_X3_sumParts {B : Int} {h : zH} {b q1 : Nat} {s : zs} {a c w : Int} (hb : zSt b) (hq : zArI q1 40) (r : Rep s h b) (hW : WF B s) (hw : ∀ x : Int, 0 ≤ x → x < s 132 → h q1 x.toNat = s (136 + 5 * x + w).toNat) : zSp 1 mX3_sumParts [zR (b + 9), zR q1, zI a, zI c] h (fun q h' => q = some (zI (sSum s a c w (s 132).toNat)) ∧ h = h') := by
  refine zSp_of (by decide +kernel) (Nat.le_of_ble_eq_true rfl) rfl (fun Γ => k_X3_sumParts_0 hb hq (by decide) ?_)
  exact c_X3_sumParts_l hb hq r hW hw ⟨rfl, rfl⟩ (s 132).toNat 0 (by omega)
theorem c_X3_partsLent {B : Int} {h : zH} {b : Nat} {s : zs} {a c : Int} (hb : zSt b) (r : Rep s h b) (hW : WF B s) : zSp 2 mX3_partsLent [zR (b + 9), zI a, zI c] h (fun q h' => q = some (zI (sSum s a c 1 (s 132).toNat)) ∧ h = h') := by
  refine zSp_of (by decide +kernel) (Nat.le_of_ble_eq_true rfl) rfl (fun Γ => k_X3_partsLent_0 hb (by decide) ?_)
  refine ⟨1, _, by decide, c_X3_sumParts (w := 1) hb (za_lender hb) r hW (fun x x0 x1 => (r.l x x0 x1).2.1), ?_⟩
  rintro _ _ ⟨rfl, rfl⟩
  exact ⟨_, rfl, rfl, rfl⟩
theorem c_X3_partsBorrowed {B : Int} {h : zH} {b : Nat} {s : zs} {a c : Int} (hb : zSt b) (r : Rep s h b) (hW : WF B s) : zSp 2 mX3_partsBorrowed [zR (b + 9), zI a, zI c] h (fun q h' => q = some (zI (sSum s a c 2 (s 132).toNat)) ∧ h = h') := by
  refine zSp_of (by decide +kernel) (Nat.le_of_ble_eq_true rfl) rfl (fun Γ => k_X3_partsBorrowed_0 hb (by decide) ?_)
  refine ⟨1, _, by decide, c_X3_sumParts (w := 2) hb (za_borrower hb) r hW (fun x x0 x1 => (r.l x x0 x1).2.2.1), ?_⟩
  rintro _ _ ⟨rfl, rfl⟩
  exact ⟨_, rfl, rfl, rfl⟩
/-- the class's reading calls: the trial state and the idle table may change -/
def zFt (h h' : zH) : Prop := ∀ k : Nat, k ≠ 124 → (k < 16 ∨ 31 ≤ k) → h' k = h k
theorem c_X6_heldAfterGathering {B : Int} {h : zH} {s : zs} {a c : Int} (r : Rep s h 1) (hW : WF B s) (ha : 0 ≤ a ∧ a ≤ 5) (hc : 0 ≤ c ∧ c ≤ 5) : zSp 18 mX6_heldAfterGathering [zR 0, zI a, zI c] h (fun q h' => q = some (zI (gat c 6 0 s a (6 * c + a).toNat)) ∧ zFt h h') := by
  refine zSp_of (by decide +kernel) (Nat.le_of_ble_eq_true rfl) rfl (fun Γ => k_X6_heldAfterGathering_0  (by decide) ?_)
  refine ⟨2, _, by decide, c_X4_copyFrom zSt_16 zSt_1 (by decide) r hW, ?_⟩
  rintro _ h1 ⟨rfl, r1, f1⟩
  refine ⟨rfl, 17, _, by decide, c_X1_run zSt_16 r1 hW ha hc, ?_⟩
  rintro _ h2 ⟨rfl, r2, f2⟩
  refine ⟨_, rfl, ha, hc, ?_⟩
  rw [show h2 20 = h2 (16 + 4) from rfl, r2.h a c ha hc]
  exact ⟨rfl, fun k k0 k1 => by rw [f2 k k0 k1, f1 k k1]⟩
theorem sCp_z {f g : zs} (hf : WFz f) (hg : WFz g) : sCp f g = f := by
  funext j
  unfold sCp
  by_cases e : j < 336
  · rw [if_pos e]
  · rw [if_neg e, hf j (by omega), hg j (by omega)]
theorem sCp_2 {f g k : zs} (hf : WFz f) (hg : WFz g) : sCp (sCp f k) g = f := by
  funext j
  unfold sCp
  by_cases e : j < 336
  · rw [if_pos e, if_pos e]
  · rw [if_neg e, hf j (by omega), hg j (by omega)]