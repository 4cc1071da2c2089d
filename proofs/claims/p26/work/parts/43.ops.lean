/-! the other changes of a state keep it well-formed -/
theorem WF_of {B B' : Int} {s s' : zs} (h : WF B s) (hr : ∀ j : Nat, j < 72 ∨ (132 ≤ j ∧ j ≠ 134) → s' j = s j) (hv : WFv B' s') (hc : WFc s') (ho : ∀ c : Int, 0 ≤ c ∧ c ≤ 5 → s' (126 + c).toNat = s (126 + c).toNat) : WF B' s' := by
  obtain ⟨n1, n2, n3, n4, n5⟩ := h.n
  refine ⟨?_, ?_, ?_, ?_, ?_, ?_, hv, hc, ?_⟩
  · unfold WFn
    rw [hr 132 (by decide), hr 133 (by decide), hr 135 (by decide)]
    exact h.n
  · intro x x0 x1
    rw [hr 132 (by decide)] at x1
    rw [hr _ (by omega), hr _ (by omega), hr _ (by omega), hr _ (by omega), hr _ (by omega), hr _ (by omega)]
    exact h.l x x0 x1
  · intro x y x0 xy y1
    rw [hr 132 (by decide)] at y1
    rw [hr _ (by omega), hr _ (by omega)]
    exact h.o x y x0 xy y1
  · intro a c ha hc
    rw [hr _ (by omega), hr _ (by omega)]
    exact h.h a c ha hc
  · intro c hc
    rw [sum6_congr hc (fun j hj => hr j (by omega))]
    exact h.s c hc
  · intro a c ha hc
    rw [hr _ (by omega), ho c hc, hr 132 (by decide), lsum_congr (s := s) (s' := s') (s 132).toNat (fun x w x0 x1 h1 h4 => hr _ (by omega))]
    exact h.k a c ha hc
  · intro j hj
    rw [hr j (by omega)]
    exact h.z j hj
theorem WF_up {B B' : Int} {s : zs} (h : WF B s) (hB : B ≤ B') : WF B' s :=
  WF_of h (fun _ _ => rfl) (fun c hc => by have := h.v c hc; exact ⟨this.1, ⟨this.2.1.1, by omega⟩, this.2.2⟩) h.c (fun _ _ => rfl)
theorem WF_write {B : Int} {s : zs} {c v : Int} (h : WF B s) (hB : B ≤ 100000) (hc : 0 ≤ c ∧ c ≤ 5) (hv : 0 ≤ v ∧ v ≤ 999) : WF (B + 1) (sWrite s c v) := by
  have hx := h.v c hc
  have e120 : sWrite s c v (120 + c).toNat = s (120 + c).toNat + 1 := by
    unfold sWrite sAdd
    rw [su_ne _ _ (by omega), su_same, su_ne _ _ (by omega), zwr_eq (by omega) (by omega)]
  have e114 : sWrite s c v (114 + c).toNat = v := by
    unfold sWrite sAdd
    rw [su_ne _ _ (by omega), su_ne _ _ (by omega), su_same]
  have off : ∀ j : Nat, j ≠ 134 → j ≠ (114 + c).toNat → j ≠ (120 + c).toNat → sWrite s c v j = s j := by
    intro j h1 h2 h3
    unfold sWrite sAdd
    rw [su_ne _ _ h1, su_ne _ _ h3, su_ne _ _ h2]
  refine WF_of h (fun j hj => off j (by omega) (by omega) (by omega)) (fun c' hc' => ?_) (fun c' hc' => ?_) (fun c' hc' => off _ (by omega) (by omega) (by omega))
  · have hx' := h.v c' hc'
    rw [off (126 + c').toNat (by omega) (by omega) (by omega)]
    by_cases e : c' = c
    · rw [e, e114, e120]
      rw [e] at hx'
      exact ⟨hv, ⟨by omega, by omega⟩, hx'.2.2⟩
    · rw [off (114 + c').toNat (by omega) (by omega) (by omega), off (120 + c').toNat (by omega) (by omega) (by omega)]
      exact ⟨hx'.1, ⟨by omega, by omega⟩, hx'.2.2⟩
  · have hc2 := h.c c' hc'
    rw [off _ (by omega) (by omega) (by omega)]
    refine ⟨hc2.1, fun k hk0 hk1 => ?_, fun k k' hk0 hk1 hk2 => ?_⟩
    · rw [off _ (by omega) (by omega) (by omega)]
      exact hc2.2.1 k hk0 hk1
    · rw [off _ (by omega) (by omega) (by omega), off _ (by omega) (by omega) (by omega)]
      exact hc2.2.2 k k' hk0 hk1 hk2
def sHold (s : zs) (a c v : Int) : zs := su s (36 + 6 * c + a).toNat v
theorem WF_hold {B : Int} {s : zs} {a c v : Int} (h : WF B s) (ha : 0 ≤ a ∧ a ≤ 5) (hc : 0 ≤ c ∧ c ≤ 5) (hv : v = 0 ∨ v = 1) : WF B (sHold s a c v) := by
  have off : ∀ j : Nat, j ≠ (36 + 6 * c + a).toNat → sHold s a c v j = s j := fun j hj => su_ne _ _ hj
  refine ⟨?_, ?_, ?_, ?_, ?_, ?_, ?_, ?_, ?_⟩
  · unfold WFn
    rw [off 132 (by omega), off 133 (by omega), off 135 (by omega)]
    exact h.n
  · intro x x0 x1
    rw [off 132 (by omega)] at x1
    rw [off _ (by omega), off _ (by omega), off _ (by omega), off _ (by omega), off _ (by omega), off _ (by omega)]
    exact h.l x x0 x1
  · intro x y x0 xy y1
    rw [off 132 (by omega)] at y1
    rw [off _ (by omega), off _ (by omega)]
    exact h.o x y x0 xy y1
  · intro a' c' ha' hc'
    have b0 := h.h a' c' ha' hc'
    rw [off (6 * c' + a').toNat (by omega)]
    refine ⟨b0.1, ?_⟩
    by_cases e : (36 + 6 * c' + a').toNat = (36 + 6 * c + a).toNat
    · rw [e]
      unfold sHold
      rw [su_same]
      exact hv
    · rw [off _ e]
      exact b0.2
  · intro c' hc'
    rw [sum6_congr hc' (fun j hj => off j (by omega))]
    exact h.s c' hc'
  · intro a' c' ha' hc'
    have n := h.n
    unfold WFn at n
    rw [off (6 * c' + a').toNat (by omega), off (126 + c').toNat (by omega), off 132 (by omega), lsum_congr (s := s) (s' := sHold s a c v) (s 132).toNat (fun x w x0 x1 h1 h4 => off _ (by omega))]
    exact h.k a' c' ha' hc'
  · intro c' hc'
    rw [off _ (by omega), off _ (by omega), off _ (by omega)]
    exact h.v c' hc'
  · intro c' hc'
    have hc2 := h.c c' hc'
    rw [off _ (by omega)]
    refine ⟨hc2.1, fun k hk0 hk1 => ?_, fun k k' hk0 hk1 hk2 => ?_⟩
    · rw [off _ (by omega)]
      exact hc2.2.1 k hk0 hk1
    · rw [off _ (by omega), off _ (by omega)]
      exact hc2.2.2 k k' hk0 hk1 hk2
  · intro j hj
    rw [off j (by omega)]
    exact h.z j hj
theorem sDrop_off {s : zs} {c k : Int} (hc : 0 ≤ c ∧ c ≤ 5) (hk : 0 ≤ k) (hn : 0 ≤ s (108 + c).toNat ∧ s (108 + c).toNat ≤ 6) {j : Nat} (h1 : (j : Int) < 72 + 6 * c + k ∨ 72 + 6 * c + s (108 + c).toNat - 1 ≤ (j : Int)) (h2 : j ≠ (108 + c).toNat) : sDrop s c k j = s j := by
  unfold sDrop sShC
  rw [zwr_eq (by omega) (by omega), if_neg (by omega)]
  unfold sSub
  rw [su_ne _ _ h2]
theorem sDrop_n {s : zs} {c k : Int} (hc : 0 ≤ c ∧ c ≤ 5) (hk : 0 ≤ k) (hn : 0 ≤ s (108 + c).toNat ∧ s (108 + c).toNat ≤ 6) : sDrop s c k (108 + c).toNat = s (108 + c).toNat - 1 := by
  unfold sDrop sShC
  rw [zwr_eq (by omega) (by omega), if_neg (by omega)]
  unfold sSub
  rw [su_same, zwr_eq (by omega) (by omega)]
theorem sDrop_in {s : zs} {c k : Int} (hc : 0 ≤ c ∧ c ≤ 5) (hk : 0 ≤ k) (hn : 0 ≤ s (108 + c).toNat ∧ s (108 + c).toNat ≤ 6) {i : Int} (h1 : k ≤ i) (h2 : i < s (108 + c).toNat - 1) : sDrop s c k (72 + 6 * c + i).toNat = s (72 + 6 * c + (i + 1)).toNat := by
  unfold sDrop sShC
  rw [zwr_eq (by omega) (by omega), if_pos (by omega)]
  unfold sSub
  rw [su_ne _ _ (by omega)]
  congr 1
  omega
theorem WF_drop {B : Int} {s : zs} {c k : Int} (h : WF B s) (hc : 0 ≤ c ∧ c ≤ 5) (hk : 0 ≤ k ∧ k < s (108 + c).toNat) : WF B (sDrop s c k) := by
  have hn := (h.c c hc).1
  have off := fun {j : Nat} (h1 : (j : Int) < 72 + 6 * c + k ∨ 72 + 6 * c + s (108 + c).toNat - 1 ≤ (j : Int)) (h2 : j ≠ (108 + c).toNat) => sDrop_off (s := s) hc hk.1 hn h1 h2
  have row := fun {i : Int} (i0 : 0 ≤ i) (i1 : i < s (108 + c).toNat - 1) => show sDrop s c k (72 + 6 * c + i).toNat = s (72 + 6 * c + (if i < k then i else i + 1)).toNat by
    by_cases e : i < k
    · rw [if_pos e, off (by omega) (by omega)]
    · rw [if_neg e, sDrop_in hc hk.1 hn (by omega) i1]
  refine WF_of h (fun j hj => off (by omega) (by omega)) (fun c' hc' => ?_) (fun c' hc' => ?_) (fun c' hc' => off (by omega) (by omega))
  · rw [off (by omega) (by omega), off (by omega) (by omega), off (by omega) (by omega)]
    exact h.v c' hc'
  · have hc2 := h.c c' hc'
    by_cases e : c' = c
    · rw [e, sDrop_n hc hk.1 hn]
      rw [e] at hc2
      refine ⟨by omega, fun i i0 i1 => ?_, fun i i' i0 i1 i2 => ?_⟩
      · rw [row i0 i1]
        exact hc2.2.1 _ (by split <;> omega) (by split <;> omega)
      · rw [row i0 (by omega), row (by omega) i2]
        exact hc2.2.2 _ _ (by split <;> omega) (by split <;> split <;> omega) (by split <;> omega)
    · rw [off (by omega) (by omega)]
      have hsz := hc2.1
      refine ⟨hc2.1, fun i i0 i1 => ?_, fun i i' i0 i1 i2 => ?_⟩
      · rw [off (by omega) (by omega)]
        exact hc2.2.1 i i0 i1
      · rw [off (by omega) (by omega), off (by omega) (by omega)]
        exact hc2.2.2 i i' i0 i1 i2
def sClaim (s : zs) (a c : Int) : zs := sAdd (su s (72 + 6 * c + s (108 + c).toNat).toNat a) (108 + c).toNat 1
theorem WF_claim {B : Int} {s : zs} {a c : Int} (h : WF B s) (ha : 0 ≤ a ∧ a ≤ 5) (hc : 0 ≤ c ∧ c ≤ 5) (hn : s (108 + c).toNat ≤ 5) (hne : ∀ k : Int, 0 ≤ k → k < s (108 + c).toNat → s (72 + 6 * c + k).toNat ≠ a) : WF B (sClaim s a c) := by
  have hn2 := (h.c c hc).1
  have off : ∀ j : Nat, j ≠ (108 + c).toNat → j ≠ (72 + 6 * c + s (108 + c).toNat).toNat → sClaim s a c j = s j := by
    intro j h1 h2
    unfold sClaim sAdd
    rw [su_ne _ _ h1, su_ne _ _ h2]
  have en : sClaim s a c (108 + c).toNat = s (108 + c).toNat + 1 := by
    unfold sClaim sAdd
    rw [su_same, su_ne _ _ (by omega), zwr_eq (by omega) (by omega)]
  have ea : sClaim s a c (72 + 6 * c + s (108 + c).toNat).toNat = a := by
    unfold sClaim sAdd
    rw [su_ne _ _ (by omega), su_same]
  refine WF_of h (fun j hj => off j (by omega) (by omega)) (fun c' hc' => ?_) (fun c' hc' => ?_) (fun c' hc' => off _ (by omega) (by omega))
  · rw [off _ (by omega) (by omega), off _ (by omega) (by omega), off _ (by omega) (by omega)]
    exact h.v c' hc'
  · have hc2 := h.c c' hc'
    by_cases e : c' = c
    · rw [e, en]
      rw [e] at hc2
      refine ⟨by omega, fun i i0 i1 => ?_, fun i i' i0 i1 i2 => ?_⟩
      · by_cases e2 : i = s (108 + c).toNat
        · rw [e2, ea]
          exact ha
        · rw [off _ (by omega) (by omega)]
          exact hc2.2.1 i i0 (by omega)
      · rw [off (72 + 6 * c + i).toNat (by omega) (by omega)]
        by_cases e2 : i' = s (108 + c).toNat
        · rw [e2, ea]
          exact hne i i0 (by omega)
        · rw [off _ (by omega) (by omega)]
          exact hc2.2.2 i i' i0 i1 (by omega)
    · have hsz := hc2.1
      rw [off _ (by omega) (by omega)]
      refine ⟨hc2.1, fun i i0 i1 => ?_, fun i i' i0 i1 i2 => ?_⟩
      · rw [off _ (by omega) (by omega)]
        exact hc2.2.1 i i0 i1
      · rw [off _ (by omega) (by omega), off _ (by omega) (by omega)]
        exact hc2.2.2 i i' i0 i1 i2
