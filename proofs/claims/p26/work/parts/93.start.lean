/-! the world behind the two constructors -/
def r0 (k : Nat) : Nat → Int32 := if k = 4 ∨ k = 19 ∨ k = 34 ∨ k = 51 ∨ k = 66 ∨ k = 81 ∨ k = 96 ∨ k = 111 then fOwn else if k = 5 ∨ k = 20 ∨ k = 35 ∨ k = 52 ∨ k = 67 ∨ k = 82 ∨ k = 97 ∨ k = 112 then fHeld else (fun _ => 0)
def s00 : zs := fun j => (fS0 j).toInt
def h00 : zH := fun k j => (r0 k j).toInt
theorem h00_w : zwH h00 := fun k j => by
  show (Int32.ofInt (r0 k j).toInt).toInt = (r0 k j).toInt
  rw [Int32.ofInt_toInt]
theorem h00_zW (ad : Nat → Nat) (cI cZ cS : ClassId) : zW ad cI cZ cS h00 = (List.range 128).map (fun k => (ad k, zE ad cI cZ cS k (r0 k))) := by
  unfold zW
  congr 1
  funext k
  have e : (fun j => Int32.ofInt (h00 k j)) = r0 k := funext fun j => Int32.ofInt_toInt _
  rw [e]
def ad0 (q6 : Nat → Nat) (b : Nat) : Nat → Nat := fun k => if k < 128 then q6 k else b
theorem arrV_congr {cA : ClassId} {n : Nat} {f g : Nat → Value} (h : ∀ j, j < n → f j = g j) : arrV cA n f = arrV cA n g := by
  unfold arrV
  congr 2
  funext i
  exact h i.val i.isLt
set_option maxRecDepth 100000 in
set_option maxHeartbeats 4000000 in
theorem w_eq (cI cZ cS : ClassId) (q6 : Nat → Nat) (b : Nat) : (wX6 cI cS q6).set 47 (q6 47, .inl (cS, 5, .inr (.inr (.inr (.inr (fun j => some (ad0 q6 b (48 + 15 * j)))))))) = (List.range 128).map (fun k => (ad0 q6 b k, zE (ad0 q6 b) cI cZ cS k (r0 k))) := by
  rfl
theorem w_at47 (cI cZ cS : ClassId) (q6 : Nat → Nat) (b : Nat) : (wX6 cI cS q6)[47]? = some (q6 47, .inl (cS, 5, .inr (.inr (.inr (.inr (va_up (va_up (va_up (va_up (va_up (fun _ => none) 0 (some (q6 48))) 1 (some (q6 63))) 2 (some (q6 78))) 3 (some (q6 93))) 4 (some (q6 108)))))))) := rfl
theorem start_P {D : va_G} {cI cZ cS : ClassId} {q6 : Nat → Nat} {b : Nat} {H : Heap} (h : va_P D vwCl (wX6 cI cS q6) H) : va_P D vwCl (zW (ad0 q6 b) cI cZ cS h00) H := by
  rw [h00_zW, ← w_eq]
  intro k q hk
  rw [List.getElem?_set] at hk
  by_cases e : 47 = k
  · rw [if_pos e] at hk
    split at hk
    · cases hk
      have := h 47 _ (w_at47 cI cZ cS q6 b)
      have e2 : H[q6 47]? = some (arrV cS 5 (fun j => va_rf (va_up (va_up (va_up (va_up (va_up (fun _ => none) 0 (some (q6 48))) 1 (some (q6 63))) 2 (some (q6 78))) 3 (some (q6 93))) 4 (some (q6 108)) j))) := this
      show H[q6 47]? = some (arrV cS 5 (fun j => va_rf (some (ad0 q6 b (48 + 15 * j)))))
      rw [e2]
      refine congrArg some (arrV_congr (fun j hj => ?_))
      rcases (show j = 0 ∨ j = 1 ∨ j = 2 ∨ j = 3 ∨ j = 4 by omega) with e | e | e | e | e <;> rw [e] <;> rfl
    · cases hk
  · rw [if_neg e] at hk
    exact h k q hk
theorem w_addr (cI cZ cS : ClassId) (q6 : Nat → Nat) (b : Nat) : (wX6 cI cS q6).map (fun x => x.1) = (List.range 128).map (ad0 q6 b) := by rfl
theorem start_D {A : Nat → Prop} {cI cZ cS : ClassId} {q6 : Nat → Nat} {b : Nat} (h : va_D A (wX6 cI cS q6)) : (∀ i j, i < 128 → j < 128 → ad0 q6 b i = ad0 q6 b j → i = j) ∧ ∀ i, i < 128 → A (ad0 q6 b i) := by
  have key : ∀ i, i < 128 → ∃ p : Nat × va_E, (wX6 cI cS q6)[i]? = some p ∧ p.1 = ad0 q6 b i := by
    intro i hi
    have e := congrArg (fun l => l[i]?) (w_addr cI cZ cS q6 b)
    simp only [List.getElem?_map] at e
    rw [List.getElem?_range hi] at e
    cases hw : (wX6 cI cS q6)[i]? with
    | none => rw [hw] at e; cases e
    | some p => rw [hw] at e; exact ⟨p, rfl, Option.some.inj e⟩
  refine ⟨fun i j hi hj e => ?_, fun i hi => ?_⟩
  · obtain ⟨p, p1, p2⟩ := key i hi
    obtain ⟨q, q1, q2⟩ := key j hj
    exact h.1 i j p q p1 q1 (by rw [p2, q2, e])
  · obtain ⟨p, p1, p2⟩ := key i hi
    rw [← p2]
    exact h.2 i p p1
/-! the invariant at the start -/
theorem n6 {c : Int} (hc : 0 ≤ c ∧ c ≤ 5) : ∃ n : Nat, n < 6 ∧ c = (n : Int) := ⟨c.toNat, by omega, by omega⟩
theorem s0_cnt : s00 132 = 0 ∧ s00 133 = 0 ∧ s00 134 = 0 ∧ s00 135 = 0 := by decide +kernel
theorem s0_h : ∀ c, c < 6 → ∀ a, a < 6 → s00 (6 * (c : Nat) + (a : Nat)) = (if a = c then 64 else 0) ∧ s00 (36 + 6 * c + a) = 0 ∧ s00 (126 + c) = (c : Int) ∧ s00 (114 + c) = 0 ∧ s00 (120 + c) = 0 ∧ s00 (108 + c) = 0 := by decide +kernel
theorem s0_c : ∀ c, c < 6 → ∀ a, a < 6 → h00 5 (6 * (c : Nat) + (a : Nat)) = (if a = c then 64 else 0) ∧ h00 2 c = 0 ∧ h00 3 c = 0 ∧ h00 4 c = (c : Int) ∧ h00 9 c = 0 ∧ h00 6 c = 0 := by decide +kernel
theorem s0_n : h00 1 7 = 0 ∧ h00 10 5 = 0 ∧ h00 10 6 = 0 ∧ h00 10 7 = 0 := by decide +kernel
theorem s0_z : ∀ j : Nat, 336 ≤ j → s00 j = 0 := by
  intro j hj
  show (fS0 j).toInt = 0
  have e : fS0 j = 0 := by
    unfold fS0 upd
    rw [if_neg (by omega), if_neg (by omega), if_neg (by omega), if_neg (by omega), if_neg (by omega), if_neg (by omega), if_neg (by omega), if_neg (by omega), if_neg (by omega), if_neg (by omega), if_neg (by omega), if_neg (by omega)]
  rw [e]; rfl
theorem start_WF : WF 0 s00 := by
  obtain ⟨z1, z2, z3, z4⟩ := s0_cnt
  refine ⟨?_, fun x x0 x1 => ?_, fun x y x0 xy y1 => ?_, fun a c ha hc => ?_, fun c hc => ?_, fun a c ha hc => ?_, fun c hc => ?_, fun c hc => ?_, s0_z⟩
  · unfold WFn; omega
  · omega
  · omega
  · obtain ⟨a', a1, rfl⟩ := n6 ha
    obtain ⟨c', c1, rfl⟩ := n6 hc
    obtain ⟨e1, e2, -⟩ := s0_h c' c1 a' a1
    rw [show (6 * (c' : Int) + (a' : Int)).toNat = 6 * c' + a' by omega, show (36 + 6 * (c' : Int) + (a' : Int)).toNat = 36 + 6 * c' + a' by omega, e1, e2]
    refine ⟨by split <;> decide, Or.inl rfl⟩
  · obtain ⟨c', c1, rfl⟩ := n6 hc
    unfold sum6
    rw [show (6 * (c' : Int) + 0).toNat = 6 * c' + 0 by omega, show (6 * (c' : Int) + 1).toNat = 6 * c' + 1 by omega, show (6 * (c' : Int) + 2).toNat = 6 * c' + 2 by omega, show (6 * (c' : Int) + 3).toNat = 6 * c' + 3 by omega, show (6 * (c' : Int) + 4).toNat = 6 * c' + 4 by omega, show (6 * (c' : Int) + 5).toNat = 6 * c' + 5 by omega, (s0_h c' c1 0 (by decide)).1, (s0_h c' c1 1 (by decide)).1, (s0_h c' c1 2 (by decide)).1, (s0_h c' c1 3 (by decide)).1, (s0_h c' c1 4 (by decide)).1, (s0_h c' c1 5 (by decide)).1]
    rcases (show c' = 0 ∨ c' = 1 ∨ c' = 2 ∨ c' = 3 ∨ c' = 4 ∨ c' = 5 by omega) with e | e | e | e | e | e <;> rw [e] <;> decide
  · obtain ⟨a', a1, rfl⟩ := n6 ha
    obtain ⟨c', c1, rfl⟩ := n6 hc
    obtain ⟨e1, -, e3, -⟩ := s0_h c' c1 a' a1
    rw [z1, show (6 * (c' : Int) + (a' : Int)).toNat = 6 * c' + a' by omega, show (126 + (c' : Int)).toNat = 126 + c' by omega, e1, e3]
    show _ = _ + lsum s00 a' c' 0
    unfold lsum
    by_cases q : a' = c'
    · rw [if_pos q, if_pos (by omega)]; rfl
    · rw [if_neg q, if_neg (by omega)]; rfl
  · obtain ⟨c', c1, rfl⟩ := n6 hc
    obtain ⟨-, -, e3, e4, e5, -⟩ := s0_h c' c1 0 (by decide)
    rw [show (114 + (c' : Int)).toNat = 114 + c' by omega, show (120 + (c' : Int)).toNat = 120 + c' by omega, show (126 + (c' : Int)).toNat = 126 + c' by omega, e3, e4, e5]
    omega
  · obtain ⟨c', c1, rfl⟩ := n6 hc
    obtain ⟨-, -, -, -, -, e6⟩ := s0_h c' c1 0 (by decide)
    rw [show (108 + (c' : Int)).toNat = 108 + c' by omega, e6]
    exact ⟨by omega, fun k k0 k1 => by omega, fun k k' k0 k1 k2 => by omega⟩
theorem start_Rep : Rep s00 h00 1 := by
  obtain ⟨z1, z2, z3, z4⟩ := s0_cnt
  refine ⟨fun c hc => ?_, fun a c ha hc => ?_, fun c hc => ?_, fun c k hc k0 k1 => ?_, ?_, fun x x0 x1 => ?_⟩
  · obtain ⟨c', c1, rfl⟩ := n6 hc
    obtain ⟨-, e2, e3, e4, e5, -⟩ := s0_c c' c1 0 (by decide)
    obtain ⟨-, -, d3, d4, d5, d6⟩ := s0_h c' c1 0 (by decide)
    rw [show (114 + (c' : Int)).toNat = 114 + c' by omega, show (120 + (c' : Int)).toNat = 120 + c' by omega, show (126 + (c' : Int)).toNat = 126 + c' by omega, show (108 + (c' : Int)).toNat = 108 + c' by omega, Int.toNat_natCast, d3, d4, d5, d6]
    exact ⟨e2, e3, e4, e5⟩
  · obtain ⟨a', a1, rfl⟩ := n6 ha
    obtain ⟨c', c1, rfl⟩ := n6 hc
    rw [show (6 * (c' : Int) + (a' : Int)).toNat = 6 * c' + a' by omega, (s0_h c' c1 a' a1).1]
    exact (s0_c c' c1 a' a1).1
  · obtain ⟨c', c1, rfl⟩ := n6 hc
    obtain ⟨-, -, -, -, -, e6⟩ := s0_c c' c1 0 (by decide)
    rw [Int.toNat_natCast, show h00 (1 + 5) c' = 0 from e6]
    refine ⟨by decide, fun a ha => ?_⟩
    obtain ⟨a', a1, rfl⟩ := n6 ha
    rw [show (36 + 6 * (c' : Int) + (a' : Int)).toNat = 36 + 6 * c' + a' by omega, (s0_h c' c1 a' a1).2.1]
    refine ⟨fun q => ?_, fun q => absurd q (by decide)⟩
    rw [show (0 : Int).toNat = 0 from rfl, Nat.zero_testBit] at q
    cases q
  · obtain ⟨c', c1, rfl⟩ := n6 hc
    obtain ⟨-, -, -, -, -, e6⟩ := s0_h c' c1 0 (by decide)
    rw [show (108 + (c' : Int)).toNat = 108 + c' by omega, e6] at k1
    omega
  · obtain ⟨e1, e2, e3, e4⟩ := s0_n
    unfold RepN
    rw [z1, z2, z3, z4]
    exact ⟨e1, e2, e3, e4⟩
  · omega
