/-! lending: well-formed states, the class's makeLoan -/
theorem sLend_off {s : zs} {a b c p : Int} (hn : 0 ≤ s 132 ∧ s 132 < 40) (ha : 0 ≤ a ∧ a ≤ 5) (hb : 0 ≤ b ∧ b ≤ 5) (hc : 0 ≤ c ∧ c ≤ 5) {j : Nat} (h1 : 36 ≤ j) (h2 : j < 132 ∨ j = 134 ∨ j = 135 ∨ 336 ≤ j) : sLend s a b c p j = s j := by
  unfold sLend
  rw [show ∀ t : zs, sAdd (sAdd t 132 1) 133 1 j = t j from fun t => by unfold sAdd; rw [su_ne _ _ (by omega), su_ne _ _ (by omega)]]
  rw [sMove_off ha hb hc h1]
  unfold sPut
  simp (disch := omega) only [su_ne]
theorem sLend_cnt {s : zs} {a b c p : Int} (hn : 0 ≤ s 132 ∧ s 132 < 40) (hm : 0 ≤ s 133 ∧ s 133 ≤ 1000) (ha : 0 ≤ a ∧ a ≤ 5) (hb : 0 ≤ b ∧ b ≤ 5) (hc : 0 ≤ c ∧ c ≤ 5) : sLend s a b c p 132 = s 132 + 1 ∧ sLend s a b c p 133 = s 133 + 1 := by
  have e1 : ∀ j : Nat, j = 132 ∨ j = 133 → sMove (sPut s (s 132) (s 133) a b c p) a b c p j = s j := by
    intro j hj
    rw [sMove_off ha hb hc (by omega)]
    unfold sPut
    simp (disch := omega) only [su_ne]
  unfold sLend sAdd
  constructor
  · rw [su_ne _ _ (by decide), su_same, e1 132 (by decide), zwr_eq (by omega) (by omega)]
  · rw [su_same, su_ne _ _ (by decide), e1 133 (by decide), zwr_eq (by omega) (by omega)]
theorem sLend_row {s : zs} {a b c p y w : Int} (hn : 0 ≤ s 132 ∧ s 132 < 40) (ha : 0 ≤ a ∧ a ≤ 5) (hb : 0 ≤ b ∧ b ≤ 5) (hc : 0 ≤ c ∧ c ≤ 5) (hy : 0 ≤ y ∧ y < s 132) (hw : 0 ≤ w ∧ w ≤ 4) : sLend s a b c p (136 + 5 * y + w).toNat = s (136 + 5 * y + w).toNat := by
  unfold sLend
  rw [show ∀ t : zs, sAdd (sAdd t 132 1) 133 1 (136 + 5 * y + w).toNat = t (136 + 5 * y + w).toNat from fun t => by unfold sAdd; rw [su_ne _ _ (by omega), su_ne _ _ (by omega)]]
  rw [sMove_off ha hb hc (by omega)]
  unfold sPut
  simp (disch := omega) only [su_ne]
theorem sLend_new {s : zs} {a b c p : Int} (hn : 0 ≤ s 132 ∧ s 132 < 40) (ha : 0 ≤ a ∧ a ≤ 5) (hb : 0 ≤ b ∧ b ≤ 5) (hc : 0 ≤ c ∧ c ≤ 5) : sLend s a b c p (136 + 5 * s 132 + 0).toNat = s 133 ∧ sLend s a b c p (136 + 5 * s 132 + 1).toNat = a ∧ sLend s a b c p (136 + 5 * s 132 + 2).toNat = b ∧ sLend s a b c p (136 + 5 * s 132 + 3).toNat = c ∧ sLend s a b c p (136 + 5 * s 132 + 4).toNat = p := by
  have e : ∀ w : Int, 0 ≤ w → w ≤ 4 → sLend s a b c p (136 + 5 * s 132 + w).toNat = sPut s (s 132) (s 133) a b c p (136 + 5 * s 132 + w).toNat := by
    intro w w0 w1
    unfold sLend
    rw [show ∀ t : zs, sAdd (sAdd t 132 1) 133 1 (136 + 5 * s 132 + w).toNat = t (136 + 5 * s 132 + w).toNat from fun t => by unfold sAdd; rw [su_ne _ _ (by omega), su_ne _ _ (by omega)]]
    rw [sMove_off ha hb hc (by omega)]
  rw [e 0 (by omega) (by omega), e 1 (by omega) (by omega), e 2 (by omega) (by omega), e 3 (by omega) (by omega), e 4 (by omega) (by omega)]
  unfold sPut
  refine ⟨?_, ?_, ?_, ?_, ?_⟩ <;> simp (disch := omega) only [su_ne, su_same]
theorem sLend_held {s : zs} {a b c p a' c' : Int} (hn : 0 ≤ s 132 ∧ s 132 < 40) (hh : WFh s) (hs : WFs s) (ha : 0 ≤ a ∧ a ≤ 5) (hb : 0 ≤ b ∧ b ≤ 5) (hc : 0 ≤ c ∧ c ≤ 5) (hp : 1 ≤ p ∧ p ≤ 64) (hle : p ≤ s (6 * c + a).toNat) (ha' : 0 ≤ a' ∧ a' ≤ 5) (hc' : 0 ≤ c' ∧ c' ≤ 5) : sLend s a b c p (6 * c' + a').toNat = s (6 * c' + a').toNat + (if c' = c then (if a' = b then p else 0) - (if a' = a then p else 0) else 0) := by
  have b1 := WF_held hh hs ha hc
  have b2 := WF_held hh hs hb hc
  have e : ∀ j : Nat, j < 36 → sPut s (s 132) (s 133) a b c p j = s j := by
    intro j hj
    unfold sPut
    simp (disch := omega) only [su_ne]
  unfold sLend
  rw [show ∀ t : zs, sAdd (sAdd t 132 1) 133 1 (6 * c' + a').toNat = t (6 * c' + a').toNat from fun t => by unfold sAdd; rw [su_ne _ _ (by omega), su_ne _ _ (by omega)]]
  rw [sMove_at ha hb hc ha' hc' (by omega) (by rw [e _ (by omega)]; exact ⟨hle, b1.2⟩) (by rw [e _ (by omega)]; exact b2), e _ (by omega)]
theorem sum6_congr {s s' : zs} {c : Int} (hc : 0 ≤ c ∧ c ≤ 5) (e : ∀ j : Nat, j < 36 → s' j = s j) : sum6 s' c = sum6 s c := by
  unfold sum6
  rw [e _ (by omega), e _ (by omega), e _ (by omega), e _ (by omega), e _ (by omega), e _ (by omega)]
theorem WF_lend {B : Int} {s : zs} {a b c p : Int} (h : WF B s) (hn : s 132 < 40 ∧ s 133 < 1000) (ha : 0 ≤ a ∧ a ≤ 5) (hb : 0 ≤ b ∧ b ≤ 5) (hc : 0 ≤ c ∧ c ≤ 5) (hp : 1 ≤ p ∧ p ≤ 64) (hle : p ≤ s (6 * c + a).toNat) : WF B (sLend s a b c p) := by
  obtain ⟨n1, n2, n3, n4, n5⟩ := h.n
  have hn1 : 0 ≤ s 132 ∧ s 132 < 40 := ⟨n1, hn.1⟩
  obtain ⟨c1, c2⟩ := sLend_cnt (p := p) hn1 ⟨by omega, n3⟩ ha hb hc
  obtain ⟨w0, w1, w2, w3, w4⟩ := sLend_new (p := p) hn1 ha hb hc
  have off := fun {j : Nat} (h1 : 36 ≤ j) (h2 : j < 132 ∨ j = 134 ∨ j = 135 ∨ 336 ≤ j) => sLend_off (p := p) hn1 ha hb hc h1 h2
  have row := fun {y w : Int} (hy : 0 ≤ y ∧ y < s 132) (hw : 0 ≤ w ∧ w ≤ 4) => sLend_row (p := p) hn1 ha hb hc hy hw
  have held := fun {a' c' : Int} (ha' : 0 ≤ a' ∧ a' ≤ 5) (hc' : 0 ≤ c' ∧ c' ≤ 5) => sLend_held hn1 h.h h.s ha hb hc hp hle ha' hc'
  refine ⟨⟨by omega, by omega, by omega, by rw [off (by decide) (by decide)]; exact n4, by rw [c1, c2, off (by decide) (by decide)]; omega⟩, ?_, ?_, ?_, ?_, ?_, ?_, ?_, ?_⟩
  · intro y y0 y1
    rw [c1] at y1
    by_cases e : y = s 132
    · rw [e, w0, w1, w2, w3, w4, c2]
      exact ⟨by omega, ha, hb, hc, hp⟩
    · have := h.l y y0 (by omega)
      rw [row ⟨y0, by omega⟩ (by omega), row ⟨y0, by omega⟩ (by omega), row ⟨y0, by omega⟩ (by omega), row ⟨y0, by omega⟩ (by omega), row ⟨y0, by omega⟩ (by omega), c2]
      exact ⟨⟨this.1.1, by omega⟩, this.2⟩
  · intro x y x0 xy y1
    rw [c1] at y1
    rw [row ⟨x0, by omega⟩ (by omega)]
    by_cases e : y = s 132
    · rw [e, w0]
      exact (h.l x x0 (by omega)).1.2
    · rw [row ⟨by omega, by omega⟩ (by omega)]
      exact h.o x y x0 xy (by omega)
  · intro a' c' ha' hc'
    rw [held ha' hc', off (by omega) (by omega)]
    have b0 := h.h a' c' ha' hc'
    refine ⟨?_, b0.2⟩
    by_cases e1 : c' = c
    · rw [if_pos e1]
      by_cases e2 : a' = a
      · rw [if_pos e2, e1, e2]
        split <;> omega
      · rw [if_neg e2]
        split <;> omega
    · rw [if_neg e1]
      omega
  · intro c' hc'
    have b1 := WF_held h.h h.s ha hc
    have b2 := WF_held h.h h.s hb hc
    have e : ∀ j : Nat, j < 36 → sPut s (s 132) (s 133) a b c p j = s j := by
      intro j hj
      unfold sPut
      simp (disch := omega) only [su_ne]
    have e2 : ∀ j : Nat, j < 36 → sLend s a b c p j = sMove (sPut s (s 132) (s 133) a b c p) a b c p j := by
      intro j hj
      unfold sLend
      generalize sMove (sPut s (s 132) (s 133) a b c p) a b c p = t
      unfold sAdd
      rw [su_ne _ _ (by omega), su_ne _ _ (by omega)]
    rw [sum6_congr hc' e2, sMove_sum ha hb hc hc' (by omega) (by rw [e _ (by omega)]; exact ⟨hle, b1.2⟩) (by rw [e _ (by omega)]; exact b2), sum6_congr hc' e]
    exact h.s c' hc'
  · intro a' c' ha' hc'
    rw [held ha' hc', off (by omega) (by omega), h.k a' c' ha' hc', c1]
    rw [show (s 132 + 1).toNat = (s 132).toNat + 1 by omega]
    rw [show ∀ t : zs, lsum t a' c' ((s 132).toNat + 1) = lsum t a' c' (s 132).toNat + lterm t a' c' (((s 132).toNat : Nat) : Int) from fun _ => rfl]
    rw [lsum_congr (s := s) (s' := sLend s a b c p) (s 132).toNat (fun x w x0 x1 h1 h4 => row ⟨x0, by omega⟩ (by omega))]
    rw [show (((s 132).toNat : Nat) : Int) = s 132 by omega]
    unfold lterm
    rw [w1, w2, w3, w4]
    have q1 : (c' = c) = (c = c') := propext eq_comm
    have q2 : (a' = a) = (a = a') := propext eq_comm
    have q3 : (a' = b) = (b = a') := propext eq_comm
    simp only [q1, q2, q3]
    omega
  · intro c' hc'
    rw [off (by omega) (by omega), off (by omega) (by omega), off (by omega) (by omega)]
    exact h.v c' hc'
  · intro c' hc'
    have hc2 := h.c c' hc'
    rw [off (by omega) (by omega)]
    refine ⟨hc2.1, fun k hk0 hk1 => ?_, fun k k' hk0 hk1 hk2 => ?_⟩
    · rw [off (by omega) (by omega)]
      exact hc2.2.1 k hk0 hk1
    · rw [off (by omega) (by omega), off (by omega) (by omega)]
      exact hc2.2.2 k k' hk0 hk1 hk2
  · intro j hj
    rw [off (by omega) (by omega)]
    exact h.z j hj
