/-! chains of loans: the class's search -/
theorem zl_n : ∀ i, i < 36 → ((Int32.ofInt (i : Nat)).toInt64 &&& 63).toBitVec.smod 64 = BitVec.ofNat 64 i := by decide +kernel
theorem zl_and {v : Int64} : v &&& 1 = 0 ↔ v.toBitVec.getLsbD 0 = false := by
  rw [← Int64.toBitVec_inj]
  show v.toBitVec &&& 1#64 = 0#64 ↔ _
  constructor
  · intro h
    have := congrArg (fun x => x.getLsbD 0) h
    simpa using this
  · intro h
    apply BitVec.eq_of_getLsbD_eq
    intro i hi
    rw [BitVec.getLsbD_and, BitVec.getLsbD_one]
    by_cases e : i = 0
    · rw [e, h]; rfl
    · simp [e]
theorem zl_cmp {v : Int64} : (lg_cmp v 0).toInt = 0 ↔ v = 0 := by
  unfold lg_cmp
  by_cases e : v > 0
  · rw [if_pos e]
    constructor
    · intro h; exact absurd h (by decide)
    · intro h; rw [h] at e; exact absurd e (by decide)
  · rw [if_neg e]
    by_cases e2 : v = 0
    · rw [if_pos e2]; exact ⟨fun _ => e2, fun _ => rfl⟩
    · rw [if_neg e2]
      exact ⟨fun h => absurd h (by decide), fun h => absurd h e2⟩
theorem zl_bit {v : Int64} {i : Nat} (hi : i < 36) : (lg_cmp (zlshr v (i : Int) &&& 1) 0).toInt = 0 ↔ v.toBitVec.getLsbD i = false := by
  rw [zl_cmp, zl_and]
  unfold zlshr
  rw [Int64.toBitVec_shiftRight, zl_n i hi]
  unfold BitVec.sshiftRight'
  rw [BitVec.getLsbD_sshiftRight, BitVec.toNat_ofNat]
  rw [Nat.mod_eq_of_lt (by omega), if_pos (by omega)]
  simp
theorem zl_or {v : Int64} {i j : Nat} (hi : i < 36) (hj : j < 36) : (v ||| zlshl 1 (j : Int)).toBitVec.getLsbD i = (v.toBitVec.getLsbD i || decide (j = i)) := by
  unfold zlshl
  rw [Int64.toBitVec_or, Int64.toBitVec_shiftLeft, zl_n j hj, BitVec.getLsbD_or, BitVec.shiftLeft_eq', BitVec.getLsbD_shiftLeft, BitVec.toNat_ofNat, Nat.mod_eq_of_lt (by omega)]
  show (_ || (decide (i < 64) && !decide (i < j) && (1#64).getLsbD (i - j))) = _
  rw [BitVec.getLsbD_one]
  by_cases e : j = i
  · simp [e]; omega
  · have : (!decide (i < j) && decide (i - j = 0)) = false := by
      by_cases e2 : i < j
      · simp [e2]
      · simp [e2]; omega
    simp [e]; omega
def sLk (s : zs) (c : Int) (a b : Nat) : Nat → Bool
  | 0 => false
  | n + 1 => sLk s c a b n || decide (s (136 + 5 * (n : Int) + 3).toNat = c ∧ s (136 + 5 * (n : Int) + 1).toNat = (a : Int) ∧ s (136 + 5 * (n : Int) + 2).toNat = (b : Int))
def mx (f : Nat → Nat) : Nat → Nat
  | 0 => 0
  | k + 1 => if mx f k < f k then f k else mx f k
theorem mx_le {f : Nat → Nat} {B : Nat} : ∀ k : Nat, (∀ i, i < k → f i ≤ B) → mx f k ≤ B := by
  intro k
  induction k with
  | zero => intro _; exact Nat.zero_le _
  | succ k ih =>
    intro h
    have i := ih (fun i hi => h i (by omega))
    have j := h k (by omega)
    unfold mx
    split <;> omega
theorem mx_ge {f : Nat → Nat} {i : Nat} : ∀ k : Nat, i < k → f i ≤ mx f k := by
  intro k
  induction k with
  | zero => intro h; omega
  | succ k ih =>
    intro h
    unfold mx
    by_cases e : i = k
    · rw [e]; split <;> omega
    · have := ih (by omega)
      split <;> omega
theorem mx_at {f : Nat → Nat} : ∀ k : Nat, mx f k = 0 ∨ ∃ i, i < k ∧ mx f k = f i := by
  intro k
  induction k with
  | zero => exact Or.inl rfl
  | succ k ih =>
    unfold mx
    by_cases e : mx f k < f k
    · rw [if_pos e]; exact Or.inr ⟨k, by omega, rfl⟩
    · rw [if_neg e]
      rcases ih with q | ⟨i, i1, i2⟩
      · exact Or.inl q
      · exact Or.inr ⟨i, by omega, i2⟩
def cL (L : Nat → Nat → Bool) : Nat → Nat → Nat → Nat
  | 0, _, _ => 0
  | n + 1, a, m => mx (fun k => if L a k && !m.testBit k then cL L n k (m ||| 1 <<< k) + 1 else 0) 6
def cTot (L : Nat → Nat → Bool) : Nat := mx (fun a => cL L 5 a (1 <<< a)) 6
theorem cL_le (L : Nat → Nat → Bool) : ∀ (n a m : Nat), cL L n a m ≤ n := by
  intro n
  induction n with
  | zero => intro _ _; exact Nat.le_refl _
  | succ n ih =>
    intro a m
    unfold cL
    refine mx_le 6 (fun k _ => ?_)
    have := ih k (m ||| 1 <<< k)
    split <;> omega
theorem zshl1 : ∀ a, a < 6 → zshl 1 (a : Nat) = ((1 <<< a : Nat) : Int) ∧ 1 <<< a < 64 := by decide +kernel
theorem zorlt : ∀ m, m < 64 → ∀ a, a < 6 → m ||| 1 <<< a < 64 := by decide +kernel
theorem c_X3_longestFrom {L : Nat → Nat → Bool} {v0 : Int64} (hv : ∀ i k : Nat, i < 6 → k < 6 → v0.toBitVec.getLsbD (6 * i + k) = L i k) : ∀ (n t : Nat) (h : zH) (a m : Nat), n + t = 6 → a < 6 → m < 64 → zSp (n + 1) mX3_longestFrom [zL v0, zI (a : Int), zI (m : Int), zI (t : Int)] h (fun q h' => q = some (zI ((cL L n a m : Nat) : Int)) ∧ h = h') := by
  intro n
  induction n with
  | zero =>
    intro t h a m hn ha hm
    refine zSp_of (by decide +kernel) (Nat.le_of_ble_eq_true rfl) rfl (fun Γ => k_X3_longestFrom_0  (by decide) ?_)
    exact ⟨fun c => absurd c (by omega), fun _ => ⟨rfl, rfl⟩⟩
  | succ n ih =>
    intro t h a m hn ha hm
    refine zSp_of (by decide +kernel) (Nat.le_of_ble_eq_true rfl) rfl (fun Γ => k_X3_longestFrom_0 (by omega) ?_)
    refine ⟨fun _ => ?_, fun c => absurd (by omega) c⟩
    have key : ∀ j k : Nat, j + k = 6 → (fun (d : Nat) => ∀ Post : Option zA → zH → Prop, Post (some (zI ((cL L (n + 1) a m : Nat) : Int))) h → zV RX3 cX3_longestFrom 9 (some .int) d Post Γ 15 [(0, zL v0), (2, zI (a : Int)), (3, zI (m : Int)), (4, zI (t : Int)), (5, zI ((mx (fun k => if L a k && !m.testBit k then cL L n k (m ||| 1 <<< k) + 1 else 0) k : Nat) : Int)), (6, zI (k : Int))] [] h) (n + 1 + 1) := by
      intro j
      induction j with
      | zero =>
        intro k hk Post hp
        refine k_X3_longestFrom_15 (by omega) ⟨fun _ => ?_, fun c => absurd c (by omega)⟩
        rw [show k = 6 by omega]
        exact hp
      | succ j ij =>
        intro k hk Post hp
        have st := ij (k + 1) (by omega) Post hp
        have hle := mx_le (f := fun k => if L a k && !m.testBit k then cL L n k (m ||| 1 <<< k) + 1 else 0) (B := n + 1) k (fun i _ => by
          have := cL_le L n i (m ||| 1 <<< i)
          show (if L a i && !m.testBit i then cL L n i (m ||| 1 <<< i) + 1 else 0) ≤ n + 1
          split <;> omega)
        have hk2 := cL_le L n k (m ||| 1 <<< k)
        unfold mx at st
        refine k_X3_longestFrom_15 (by omega) ⟨fun c => absurd c (by omega), fun _ => ?_⟩
        have e1 : zwr (zwr ((a : Int) * 6) + (k : Int)) = ((6 * a + k : Nat) : Int) := by
          rw [zwr_eq (a := (a : Int) * 6) (by omega) (by omega), zwr_eq (by omega) (by omega)]
          omega
        rw [e1]
        have hb := zl_bit (v := v0) (i := 6 * a + k) (by omega)
        rw [hv a k ha (by omega)] at hb
        have hz := zbusy m hm k (by omega)
        have skip : ∀ x : Int, x = zwr ((k : Int) + 1) → (L a k && !m.testBit k) = false → (fun (d : Nat) => zV RX3 cX3_longestFrom 9 (some .int) d Post Γ 15 [(0, zL v0), (2, zI (a : Int)), (3, zI (m : Int)), (4, zI (t : Int)), (5, zI ((mx (fun k => if L a k && !m.testBit k then cL L n k (m ||| 1 <<< k) + 1 else 0) k : Nat) : Int)), (6, zI x)] [] h) (n + 1 + 1) := by
          intro x e f
          rw [zstep e (by omega)]
          rw [f] at st
          rw [if_neg (by rw [if_neg (by decide)]; exact Nat.not_lt_zero _)] at st
          exact st
        refine ⟨fun c => ?_, fun c => ?_⟩
        · have f : (L a k && !m.testBit k) = false := by rw [hb.mp c]; rfl
          refine k_X3_longestFrom_43 (by omega) ⟨fun c2 => ?_, fun c2 => ?_⟩
          · exact k_X3_longestFrom_59 (by omega) ⟨fun _ x e => skip x e f, fun z => absurd rfl z⟩
          · exact k_X3_longestFrom_59 (by omega) ⟨fun _ x e => skip x e f, fun z => absurd rfl z⟩
        · have f1 : L a k = true := by
            cases q : L a k
            · exact absurd (hb.mpr q) c
            · rfl
          refine k_X3_longestFrom_43 (by omega) ⟨fun c2 => ?_, fun c2 => ?_⟩
          · have f2 : (L a k && !m.testBit k) = true := by rw [f1, hz.mp c2]; rfl
            refine k_X3_longestFrom_59 (by omega) ⟨fun z => absurd z (by decide), fun _ => ⟨fun z => absurd rfl z, fun _ => ?_⟩⟩
            rw [zorbit m hm k (by omega), show zwr ((t : Int) + 1) = ((t + 1 : Nat) : Int) by rw [zwr_eq (by omega) (by omega)]; omega]
            refine ⟨n + 1, _, by omega, ih (t + 1) h k (m ||| 1 <<< k) (by omega) (by omega) (zorlt m hm k (by omega)), ?_⟩
            rintro _ _ ⟨rfl, rfl⟩
            refine ⟨_, rfl, ?_⟩
            intro y ey x e
            rw [zstep e (by omega)]
            rw [zwr_eq (by omega) (by omega)] at ey
            rw [f2] at st
            simp only [if_true] at st
            by_cases q : mx (fun k => if L a k && !m.testBit k then cL L n k (m ||| 1 <<< k) + 1 else 0) k < cL L n k (m ||| 1 <<< k) + 1
            · rw [if_pos q] at st
              rw [if_pos (by omega)] at ey
              rw [ey, show (1 : Int) + ((cL L n k (m ||| 1 <<< k) : Nat) : Int) = ((cL L n k (m ||| 1 <<< k) + 1 : Nat) : Int) by omega]
              exact st
            · rw [if_neg q] at st
              rw [if_neg (by omega)] at ey
              rw [ey]
              exact st
          · have f2 : (L a k && !m.testBit k) = false := by
              cases q : m.testBit k
              · exact absurd (hz.mpr q) c2
              · rw [f1]; rfl
            refine k_X3_longestFrom_59 (by omega) ⟨fun z => absurd z (by decide), fun _ => ⟨fun _ x e => skip x e f2, fun z => absurd z (by decide)⟩⟩
    exact key 6 0 rfl _ ⟨rfl, rfl⟩
theorem c_X3_linksOf {B : Int} {h : zH} {b : Nat} {s : zs} {c : Int} (hb : zSt b) (r : Rep s h b) (hW : WF B s) : zSp 1 mX3_linksOf [zR (b + 9), zI c] h (fun q h' => (∃ y : Int64, q = some (zL y) ∧ ∀ i k : Nat, i < 6 → k < 6 → y.toBitVec.getLsbD (6 * i + k) = sLk s c i k (s 132).toNat) ∧ h = h') := by
  refine zSp_of (by decide +kernel) (Nat.le_of_ble_eq_true rfl) rfl (fun Γ => k_X3_linksOf_0 hb (by decide) ?_)
  obtain ⟨w1, w2, -⟩ := hW.n
  have hn := r.n.2.1
  have key : ∀ n m : Nat, n + m = (s 132).toNat → ∀ y : Int64, (∀ i k : Nat, i < 6 → k < 6 → y.toBitVec.getLsbD (6 * i + k) = sLk s c i k m) → (fun (d : Nat) => ∀ Post : Option zA → zH → Prop, (∀ y : Int64, (∀ i k : Nat, i < 6 → k < 6 → y.toBitVec.getLsbD (6 * i + k) = sLk s c i k (s 132).toNat) → Post (some (zL y)) h) → zV RX3 cX3_linksOf 5 (some .long) d Post Γ 5 [(0, zR (b + 9)), (1, zI c), (2, zL y), (4, zI (m : Int))] [] h) 1 := by
    intro n
    induction n with
    | zero =>
      intro m hm y hy Post hp
      refine k_X3_linksOf_5 hb (by decide) ⟨fun _ => ?_, fun z => absurd z (by omega)⟩
      rw [show m = (s 132).toNat by omega] at hy
      exact hp y hy
    | succ n ih =>
      intro m hm y hy Post hp
      have hl := r.l (m : Int) (by omega) (by omega)
      have hw := hW.l (m : Int) (by omega) (by omega)
      refine k_X3_linksOf_5 hb (by decide) ⟨fun z => absurd z (by omega), fun z => ⟨by omega, by omega, ?_⟩⟩
      rw [hl.2.2.2.1, hl.2.1, hl.2.2.1]
      refine ⟨fun c2 => ?_, fun c2 => ⟨by omega, by omega, by omega, by omega, ?_⟩⟩
      · intro x e
        rw [zstep e (by omega)]
        refine ih (m + 1) (by omega) y (fun i k hi hk => ?_) Post hp
        unfold sLk
        rw [hy i k hi hk, decide_eq_false (fun q => c2 q.1), Bool.or_false]
      · intro y' ey x e
        rw [zstep e (by omega)]
        refine ih (m + 1) (by omega) y' (fun i k hi hk => ?_) Post hp
        have e1 : zwr (zwr (s (136 + 5 * (m : Int) + 1).toNat * 6) + s (136 + 5 * (m : Int) + 2).toNat) = ((6 * (s (136 + 5 * (m : Int) + 1).toNat).toNat + (s (136 + 5 * (m : Int) + 2).toNat).toNat : Nat) : Int) := by
          rw [zwr_eq (a := s (136 + 5 * (m : Int) + 1).toNat * 6) (by omega) (by omega), zwr_eq (by omega) (by omega)]
          omega
        rw [ey, e1, zl_or (by omega) (by omega)]
        unfold sLk
        rw [hy i k hi hk]
        congr 1
        rw [decide_eq_decide]
        constructor
        · intro q; exact ⟨c2, by omega, by omega⟩
        · rintro ⟨_, q1, q2⟩
          omega
  refine key (s 132).toNat 0 (by omega) 0 (fun i k _ _ => ?_) _ (fun y hy => ⟨⟨y, rfl, hy⟩, rfl⟩)
  show (0#64).getLsbD _ = false
  exact BitVec.getLsbD_zero
theorem c_X3_longestChain {B : Int} {h : zH} {b : Nat} {s : zs} {c : Int} (hb : zSt b) (r : Rep s h b) (hW : WF B s) : zSp 7 mX3_longestChain [zR (b + 9), zI c] h (fun q h' => q = some (zI ((cTot (fun i k => sLk s c i k (s 132).toNat) : Nat) : Int)) ∧ h = h') := by
  refine zSp_of (by decide +kernel) (Nat.le_of_ble_eq_true rfl) rfl (fun Γ => k_X3_longestChain_0 hb (by decide) ?_)
  refine ⟨1, _, by decide, c_X3_linksOf hb r hW, ?_⟩
  rintro _ _ ⟨⟨y, rfl, hy⟩, rfl⟩
  refine ⟨y, rfl, ?_⟩
  have key : ∀ j k : Nat, j + k = 6 → (fun (d : Nat) => ∀ Post : Option zA → zH → Prop, Post (some (zI ((cTot (fun i k => sLk s c i k (s 132).toNat) : Nat) : Int))) h → zV RX3 cX3_longestChain 6 (some .int) d Post Γ 12 [(0, zR (b + 9)), (1, zI c), (2, zL y), (4, zI ((mx (fun a => cL (fun i k => sLk s c i k (s 132).toNat) 5 a (1 <<< a)) k : Nat) : Int)), (5, zI (k : Int))] [] h) 7 := by
    intro j
    induction j with
    | zero =>
      intro k hk Post hp
      refine k_X3_longestChain_12 hb (by decide) ⟨fun _ => ?_, fun z => absurd z (by omega)⟩
      rw [show k = 6 by omega]
      exact hp
    | succ j ij =>
      intro k hk Post hp
      have st := ij (k + 1) (by omega) Post hp
      unfold mx at st
      refine k_X3_longestChain_12 hb (by decide) ⟨fun z => absurd z (by omega), fun _ => ?_⟩
      obtain ⟨e1, e2⟩ := zshl1 k (by omega)
      rw [e1]
      refine ⟨6, _, by decide, c_X3_longestFrom (L := fun i k => sLk s c i k (s 132).toNat) hy 5 1 h k (1 <<< k) rfl (by omega) e2, ?_⟩
      rintro _ _ ⟨rfl, rfl⟩
      refine ⟨_, rfl, ?_⟩
      intro y ey x e
      rw [zstep e (by omega)]
      by_cases q : mx (fun a => cL (fun i k => sLk s c i k (s 132).toNat) 5 a (1 <<< a)) k < cL (fun i k => sLk s c i k (s 132).toNat) 5 k (1 <<< k)
      · rw [if_pos q] at st
        rw [if_pos (by omega)] at ey
        rw [ey]
        exact st
      · rw [if_neg q] at st
        rw [if_neg (by omega)] at ey
        rw [ey]
        exact st
  exact key 6 0 rfl _ ⟨rfl, rfl⟩
