/-! a loan given back keeps a state well-formed -/
theorem sGive_off {s : zs} {x : Int} (hl : WFl s) (hx : 0 ≤ x ∧ x < s 132) (hn : s 132 ≤ 40) {j : Nat} (h1 : 36 ≤ j) (h2 : j < 132 ∨ j = 133 ∨ j = 134 ∨ 336 ≤ j) : sGive s x j = s j := by
  obtain ⟨-, a1, a2, a3, -⟩ := hl x hx.1 hx.2
  have h3 : sMove s (s (136 + 5 * x + 2).toNat) (s (136 + 5 * x + 1).toNat) (s (136 + 5 * x + 3).toNat) (s (136 + 5 * x + 4).toNat) j = s j := sMove_off a2 a1 a3 h1
  unfold sGive sAdd sSub sSh
  rw [su_ne _ _ (by omega), su_ne _ _ (by omega), if_neg (by omega)]
  exact h3
theorem sGive_cnt {s : zs} {x : Int} (hl : WFl s) (hx : 0 ≤ x ∧ x < s 132) (hn : WFn s) : sGive s x 132 = s 132 - 1 ∧ sGive s x 133 = s 133 ∧ sGive s x 134 = s 134 ∧ sGive s x 135 = s 135 + 1 := by
  obtain ⟨n1, n2, n3, n4, n5⟩ := hn
  obtain ⟨-, a1, a2, a3, -⟩ := hl x hx.1 hx.2
  have hM : ∀ j : Nat, 36 ≤ j → sMove s (s (136 + 5 * x + 2).toNat) (s (136 + 5 * x + 1).toNat) (s (136 + 5 * x + 3).toNat) (s (136 + 5 * x + 4).toNat) j = s j := fun j hj => sMove_off a2 a1 a3 hj
  refine ⟨?_, sGive_off hl hx n2 (by decide) (by decide), sGive_off hl hx n2 (by decide) (by decide), ?_⟩
  · unfold sGive sAdd sSub
    rw [su_ne _ _ (by decide), su_same]
    unfold sSh
    rw [if_neg (by omega), hM 132 (by decide), zwr_eq (by omega) (by omega)]
  · unfold sGive sAdd sSub
    rw [su_same, su_ne _ _ (by decide)]
    unfold sSh
    rw [if_neg (by omega), hM 135 (by decide), zwr_eq (by omega) (by omega)]
theorem sGive_row {s : zs} {x : Int} (hl : WFl s) (hx : 0 ≤ x ∧ x < s 132) (hn : s 132 ≤ 40) {y w : Int} (hy : 0 ≤ y) (hy2 : y < s 132 - 1) (hw : 0 ≤ w ∧ w ≤ 4) : sGive s x (136 + 5 * y + w).toNat = s (136 + 5 * (if y < x then y else y + 1) + w).toNat := by
  obtain ⟨-, a1, a2, a3, -⟩ := hl x hx.1 hx.2
  have hM : ∀ j : Nat, 36 ≤ j → sMove s (s (136 + 5 * x + 2).toNat) (s (136 + 5 * x + 1).toNat) (s (136 + 5 * x + 3).toNat) (s (136 + 5 * x + 4).toNat) j = s j := fun j hj => sMove_off a2 a1 a3 hj
  unfold sGive sAdd sSub
  rw [su_ne _ _ (by omega), su_ne _ _ (by omega)]
  unfold sSh
  by_cases e : y < x
  · rw [if_pos e, if_neg (by omega), hM _ (by omega)]
  · rw [if_neg e, if_pos (by omega), hM _ (by omega)]
    congr 1
    omega
theorem sGive_held {s : zs} {x a c : Int} (hl : WFl s) (hh : WFh s) (hs : WFs s) (hx : 0 ≤ x ∧ x < s 132) (hcan : sCan s x) (ha : 0 ≤ a ∧ a ≤ 5) (hc : 0 ≤ c ∧ c ≤ 5) : sGive s x (6 * c + a).toNat = s (6 * c + a).toNat - lterm s a c x := by
  obtain ⟨-, a1, a2, a3, a4⟩ := hl x hx.1 hx.2
  have b1 := WF_held hh hs a2 a3
  have b2 := WF_held hh hs a1 a3
  have b3 := hcan.1
  have hM := sMove_at (s := s) a2 a1 a3 ha hc (p := s (136 + 5 * x + 4).toNat) (by omega) ⟨b3, b1.2⟩ b2
  unfold sGive sAdd sSub
  rw [su_ne _ _ (by omega), su_ne _ _ (by omega)]
  unfold sSh
  rw [if_neg (by omega), hM]
  unfold lterm
  repeat' split
  all_goals omega
theorem sGive_sum {s : zs} {x c : Int} (hl : WFl s) (hh : WFh s) (hs : WFs s) (hx : 0 ≤ x ∧ x < s 132) (hcan : sCan s x) (hc : 0 ≤ c ∧ c ≤ 5) : sum6 (sGive s x) c = sum6 s c := by
  obtain ⟨-, a1, a2, a3, a4⟩ := hl x hx.1 hx.2
  have b1 := WF_held hh hs a2 a3
  have b2 := WF_held hh hs a1 a3
  have b3 := hcan.1
  rw [← sMove_sum (s := s) a2 a1 a3 hc (p := s (136 + 5 * x + 4).toNat) (by omega) ⟨b3, b1.2⟩ b2]
  have e : ∀ j : Nat, j < 36 → sGive s x j = sMove s (s (136 + 5 * x + 2).toNat) (s (136 + 5 * x + 1).toNat) (s (136 + 5 * x + 3).toNat) (s (136 + 5 * x + 4).toNat) j := by
    intro j hj
    unfold sGive
    unfold sAdd sSub
    rw [su_ne _ _ (by omega), su_ne _ _ (by omega)]
    unfold sSh
    rw [if_neg (by omega)]
  unfold sum6
  rw [e _ (by omega), e _ (by omega), e _ (by omega), e _ (by omega), e _ (by omega), e _ (by omega)]
theorem WF_give {B : Int} {s : zs} {x : Int} (h : WF B s) (hx : 0 ≤ x ∧ x < s 132) (hcan : sCan s x) : WF B (sGive s x) := by
  obtain ⟨c1, c2, c3, c4⟩ := sGive_cnt h.l hx h.n
  obtain ⟨n1, n2, n3, n4, n5⟩ := h.n
  have hlw := h.l
  have row := fun {y w : Int} (hy : 0 ≤ y) (hy2 : y < s 132 - 1) (hw : 0 ≤ w ∧ w ≤ 4) => sGive_row (s := s) (x := x) hlw hx n2 hy hy2 hw
  have off := fun {j : Nat} (h1 : 36 ≤ j) (h2 : j < 132 ∨ j = 133 ∨ j = 134 ∨ 336 ≤ j) => sGive_off (s := s) (x := x) hlw hx n2 h1 h2
  refine ⟨⟨by omega, by omega, by omega, by omega, by omega⟩, ?_, ?_, ?_, ?_, ?_, ?_, ?_, ?_⟩
  · intro y hy0 hy1
    rw [c1] at hy1
    rw [row hy0 hy1 (by omega), row hy0 hy1 (by omega), row hy0 hy1 (by omega), row hy0 hy1 (by omega), row hy0 hy1 (by omega), c2]
    exact hlw _ (by split <;> omega) (by split <;> omega)
  · intro y z hy0 hyz hz1
    rw [c1] at hz1
    rw [row hy0 (by omega) (by omega), row (by omega) hz1 (by omega)]
    exact h.o _ _ (by split <;> omega) (by split <;> split <;> omega) (by split <;> omega)
  · intro a c ha hc
    rw [off (j := (36 + 6 * c + a).toNat) (by omega) (by omega)]
    refine ⟨?_, (h.h a c ha hc).2⟩
    rw [sGive_held hlw h.h h.s hx hcan ha hc]
    have b0 := WF_held h.h h.s ha hc
    obtain ⟨-, a1, a2, a3, a4⟩ := hlw x hx.1 hx.2
    have b3 := hcan.1
    unfold lterm
    by_cases e1 : s (136 + 5 * x + 3).toNat = c
    · rw [if_pos e1]
      by_cases e2 : s (136 + 5 * x + 2).toNat = a
      · rw [if_pos e2]
        rw [e1, e2] at b3
        split <;> omega
      · rw [if_neg e2]
        split <;> omega
    · rw [if_neg e1]
      omega
  · intro c hc
    rw [sGive_sum hlw h.h h.s hx hcan hc]
    exact h.s c hc
  · intro a c ha hc
    rw [sGive_held hlw h.h h.s hx hcan ha hc, off (by omega) (by omega), h.k a c ha hc, c1]
    have e := lsum_out (s := s) (s' := sGive s x) (a := a) (c := c) hx.1 (s 132 - 1).toNat (fun y w hy0 hy1 hw1 hw4 => row hy0 (by omega) (by omega))
    rw [e, show (s 132).toNat = (s 132 - 1).toNat + 1 by omega]
    by_cases e2 : (((s 132 - 1).toNat : Nat) : Int) ≤ x
    · rw [if_pos e2, show lsum s a c ((s 132 - 1).toNat + 1) = lsum s a c (s 132 - 1).toNat + lterm s a c (((s 132 - 1).toNat : Nat) : Int) from rfl, show (((s 132 - 1).toNat : Nat) : Int) = x by omega]
      omega
    · rw [if_neg e2]
      omega
  · intro c hc
    rw [off (by omega) (by omega), off (by omega) (by omega), off (by omega) (by omega)]
    exact h.v c hc
  · intro c hc
    have hc2 := h.c c hc
    rw [off (by omega) (by omega)]
    refine ⟨hc2.1, fun k hk0 hk1 => ?_, fun k k' hk0 hk1 hk2 => ?_⟩
    · rw [off (by omega) (by omega)]
      exact hc2.2.1 k hk0 hk1
    · rw [off (by omega) (by omega), off (by omega) (by omega)]
      exact hc2.2.2 k k' hk0 hk1 hk2
  · intro j hj
    rw [off (by omega) (by omega)]
    exact h.z j hj
