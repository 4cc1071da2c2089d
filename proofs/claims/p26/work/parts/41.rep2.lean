/-! the class's changes of a state -/
theorem c_X4_moveParts {h : zH} {b : Nat} {a1 a2 a3 a4 : Int} (hb : zSt b) (h1 : 0 ≤ a1 ∧ a1 ≤ 5) (h2 : 0 ≤ a2 ∧ a2 ≤ 5) (h3 : 0 ≤ a3 ∧ a3 ≤ 5) : zSp 1 mX4_moveParts [zR b, zI a1, zI a2, zI a3, zI a4] h (fun q h' => q = none ∧ h' = zrow h (b + 4) (sMove (h (b + 4)) a1 a2 a3 a4)) := by
  refine zSp_of (by decide +kernel) (Nat.le_of_ble_eq_true rfl) rfl (fun Γ => k_X4_moveParts_0 hb (by decide) ?_)
  rw [show zwr (zwr (a3 * 6) + a1) = 6 * a3 + a1 by simp (disch := omega) only [zwr_eq]; omega]
  rw [show zwr (zwr (a3 * 6) + a2) = 6 * a3 + a2 by simp (disch := omega) only [zwr_eq]; omega]
  refine ⟨by omega, by omega, by omega, by omega, ?_⟩
  rintro _ rfl
  refine ⟨by omega, by omega, by omega, by omega, ?_⟩
  rintro _ rfl
  refine ⟨rfl, ?_⟩
  simp only [zu_row, zrow_get, zrow_row]
  rfl
theorem c_X3_append {h : zH} {b : Nat} {a1 a2 a3 a4 : Int} (hb : zSt b) (hn : 0 ≤ h (b + 9) 5 ∧ h (b + 9) 5 < 40) : zSp 1 mX3_append [zR (b + 9), zI a1, zI a2, zI a3, zI a4] h (fun q h' => q = some (zI (zwr (zwr (h (b + 9) 6 + 1) - 1))) ∧ h' (b + 10) = su (h (b + 10)) (h (b + 9) 5).toNat (h (b + 9) 6) ∧ h' (b + 11) = su (h (b + 11)) (h (b + 9) 5).toNat a1 ∧ h' (b + 12) = su (h (b + 12)) (h (b + 9) 5).toNat a2 ∧ h' (b + 13) = su (h (b + 13)) (h (b + 9) 5).toNat a3 ∧ h' (b + 14) = su (h (b + 14)) (h (b + 9) 5).toNat a4 ∧ h' (b + 9) = su (su (h (b + 9)) 5 (zwr (h (b + 9) 5 + 1))) 6 (zwr (h (b + 9) 6 + 1)) ∧ ∀ k : Nat, (k < b + 9 ∨ b + 15 ≤ k) → h' k = h k) := by
  refine zSp_of (by decide +kernel) (Nat.le_of_ble_eq_true rfl) rfl (fun Γ => k_X3_append_0 hb (by decide) ?_)
  refine ⟨hn.1, hn.2, ?_⟩
  rintro _ rfl
  rw [zu_nek _ _ _ _ (by omega)]
  refine ⟨hn.1, hn.2, ?_⟩
  rintro _ rfl
  rw [zu_nek _ _ _ _ (by omega), zu_nek _ _ _ _ (by omega)]
  refine ⟨hn.1, hn.2, ?_⟩
  rintro _ rfl
  rw [zu_nek _ _ _ _ (by omega), zu_nek _ _ _ _ (by omega), zu_nek _ _ _ _ (by omega)]
  refine ⟨hn.1, hn.2, ?_⟩
  rintro _ rfl
  rw [zu_nek _ _ _ _ (by omega), zu_nek _ _ _ _ (by omega), zu_nek _ _ _ _ (by omega), zu_nek _ _ _ _ (by omega)]
  refine ⟨hn.1, hn.2, ?_⟩
  rintro _ rfl
  rintro _ rfl
  rintro _ rfl
  refine ⟨?_, ?_, ?_, ?_, ?_, ?_, ?_, fun k hk => ?_⟩
  · rw [zu_same]
    simp (disch := omega) only [zu_nek, zu_nej]
  · simp (disch := omega) only [zu_row, zrow_get, zrow_ne]
  · simp (disch := omega) only [zu_row, zrow_get, zrow_ne]
  · simp (disch := omega) only [zu_row, zrow_get, zrow_ne]
  · simp (disch := omega) only [zu_row, zrow_get, zrow_ne]
  · simp (disch := omega) only [zu_row, zrow_get, zrow_ne]
  · simp (disch := omega) only [zu_row, zrow_get, zrow_ne, su_ne]
  · simp (disch := omega) only [zu_row, zrow_ne]
theorem c_X3_remove {h : zH} {b : Nat} {a1 : Int} (hb : zSt b) (hx : 0 ≤ a1 ∧ a1 < h (b + 9) 5) (hn : h (b + 9) 5 ≤ 40) : zSp 1 mX3_remove [zR (b + 9), zI a1] h (fun q h' => q = none ∧ (∀ y : Int, 0 ≤ y → y < h (b + 9) 5 - 1 → ∀ w : Nat, 10 ≤ w → w ≤ 14 → h' (b + w) y.toNat = h (b + w) (if y < a1 then y else y + 1).toNat) ∧ h' (b + 9) = su (su (h (b + 9)) 5 (h (b + 9) 5 - 1)) 7 (zwr (h (b + 9) 7 + 1)) ∧ ∀ k : Nat, (k < b + 9 ∨ b + 15 ≤ k) → h' k = h k) := by
  refine zSp_of (by decide +kernel) (Nat.le_of_ble_eq_true rfl) rfl (fun Γ => k_X3_remove_0 hb (by decide) ?_)
  intro x1 e1
  rw [show zwr (zwr (h (b + 9) 5 - a1) - 1) = h (b + 9) 5 - a1 - 1 by simp (disch := omega) only [zwr_eq]] at e1
  rw [zwr_eq (a := a1 + 1) (by omega) (by omega)]
  refine ⟨by omega, by omega, by omega, by omega, by omega, ?_⟩
  rintro _ rfl
  refine ⟨by omega, by omega, by omega, by omega, by omega, ?_⟩
  rintro _ rfl
  refine ⟨by omega, by omega, by omega, by omega, by omega, ?_⟩
  rintro _ rfl
  refine ⟨by omega, by omega, by omega, by omega, by omega, ?_⟩
  rintro _ rfl
  refine ⟨by omega, by omega, by omega, by omega, by omega, ?_⟩
  rintro _ rfl
  rintro _ rfl
  rintro _ rfl
  have key : ∀ (g : zH) (w : Nat) (y : Int), 0 ≤ y → y < h (b + 9) 5 - 1 → zcp g (b + w) (a1 + 1).toNat (b + w) a1.toNat x1.toNat (b + w) y.toNat = g (b + w) (if y < a1 then y else y + 1).toNat := by
    intro g w y y0 y1
    by_cases q : y < a1
    · rw [if_pos q, zcp_out _ (Or.inl (by omega))]
    · rw [if_neg q, zcp_in _ (by omega) (by omega)]
      congr 1
      omega
  refine ⟨rfl, fun y y0 y1 w w0 w1 => ?_, ?_, fun k hk => ?_⟩
  · rcases (show w = 10 ∨ w = 11 ∨ w = 12 ∨ w = 13 ∨ w = 14 by omega) with q | q | q | q | q <;> rw [q] <;> simp (disch := omega) only [zu_nekr, zcp_ne, key]
  · simp (disch := omega) only [zu_row, zrow_get, zrow_ne, zcp_ne, su_ne]
    rw [zwr_eq (a := h (b + 9) 5 - 1) (by omega) (by omega)]
  · simp (disch := omega) only [zu_row, zrow_ne, zcp_ne]
/-- parts move from the borrower of the row a1 to its lender, and the row goes -/
theorem cGiveTwo {B : Int} {D : Nat} {C : zH → Prop} {h : zH} {b : Nat} {s : zs} {a1 : Int} (hD : 2 ≤ D) (hb : zSt b) (r : Rep s h b) (hW : WF B s) (hx : 0 ≤ a1 ∧ a1 < s 132) (K : ∀ h' : zH, Rep (sGive s a1) h' b → zFr b h h' → C h') :
    ∃ (d1 : Nat) (P2 : Option zA → zH → Prop), d1 + 1 ≤ D ∧ zSp d1 mX4_moveParts [zR b, zI (s (136 + 5 * a1 + 2).toNat), zI (s (136 + 5 * a1 + 1).toNat), zI (s (136 + 5 * a1 + 3).toNat), zI (s (136 + 5 * a1 + 4).toNat)] h P2 ∧ ∀ r3 h4, P2 r3 h4 → r3 = none ∧ ∃ (d5 : Nat) (P6 : Option zA → zH → Prop), d5 + 1 ≤ D ∧ zSp d5 mX3_remove [zR (b + 9), zI a1] h4 P6 ∧ ∀ r7 h8, P6 r7 h8 → r7 = none ∧ C h8 := by
  obtain ⟨w1, w2, w3, w4, w5⟩ := hW.n
  obtain ⟨l0, l1, l2, l3, l4⟩ := r.l a1 hx.1 hx.2
  obtain ⟨a0, p1, p2, p3, p4⟩ := hW.l a1 hx.1 hx.2
  obtain ⟨n0, n1, n2, n3⟩ := r.n
  refine ⟨_, _, hD, c_X4_moveParts hb p2 p1 p3, ?_⟩
  rintro _ h1 ⟨rfl, e1⟩
  have m9 : h1 (b + 9) = h (b + 9) := by rw [e1, zrow_ne _ _ (by omega)]
  refine ⟨rfl, _, _, hD, c_X3_remove (h := h1) hb (by rw [m9, n1]; exact hx) (by rw [m9, n1]; exact w2), ?_⟩
  rintro _ h2 ⟨rfl, g1, g2, g3⟩
  rw [m9] at g1 g2
  obtain ⟨c1, c2, c3, c4⟩ := sGive_cnt hW.l hx hW.n
  have off := fun {j : Nat} (h1 : 36 ≤ j) (h2 : j < 132 ∨ j = 133 ∨ j = 134 ∨ 336 ≤ j) => sGive_off (s := s) (x := a1) hW.l hx w2 h1 h2
  have hk : ∀ k : Nat, (k < b + 9 ∨ b + 15 ≤ k) → k ≠ b + 4 → h2 k = h k := fun k q1 q2 => by rw [g3 k q1, e1, zrow_ne _ _ q2]
  have hw : ∀ (w : Nat), 10 ≤ w → w ≤ 14 → h1 (b + w) = h (b + w) := fun w q1 q2 => by rw [e1, zrow_ne _ _ (by omega)]
  refine ⟨rfl, K h2 ?_ (fun k q => hk k (by omega) (by omega))⟩
  refine ⟨fun c hc => ?_, fun a c ha hc => ?_, fun c hc => ?_, fun c k hc k0 k1 => ?_, ?_, fun y y0 y1 => ?_⟩
  · rw [hk _ (by omega) (by omega), hk _ (by omega) (by omega), hk _ (by omega) (by omega), hk _ (by omega) (by omega), off (by omega) (by omega), off (by omega) (by omega), off (by omega) (by omega), off (by omega) (by omega)]
    exact r.v c hc
  · rw [g3 _ (by omega), e1, zrow_get]
    have es : sGive s a1 (6 * c + a).toNat = sMove s (s (136 + 5 * a1 + 2).toNat) (s (136 + 5 * a1 + 1).toNat) (s (136 + 5 * a1 + 3).toNat) (s (136 + 5 * a1 + 4).toNat) (6 * c + a).toNat := by
      unfold sGive sAdd sSub
      rw [su_ne _ _ (by omega), su_ne _ _ (by omega)]
      unfold sSh
      rw [if_neg (by omega)]
    rw [es]
    have f1 := r.h _ _ p2 p3
    have f2 := r.h _ _ p1 p3
    have f3 := r.h a c ha hc
    unfold sMove sAdd sSub su
    rw [f1, f3]
    by_cases q1 : (6 * c + a).toNat = (6 * s (136 + 5 * a1 + 3).toNat + s (136 + 5 * a1 + 1).toNat).toNat
    · rw [if_pos q1, if_pos q1, f2]
    · rw [if_neg q1, if_neg q1]
  · rw [hk _ (by omega) (by omega)]
    refine ⟨(r.b c hc).1, fun a ha => ?_⟩
    rw [off (by omega) (by omega)]
    exact (r.b c hc).2 a ha
  · rw [off (by omega) (by omega)] at k1
    have hc6 := (hW.c c hc).1
    rw [hk _ (by omega) (by omega), off (by omega) (by omega)]
    exact r.c c k hc k0 k1
  · refine ⟨by rw [hk _ (by omega) (by omega), c3]; exact n0, by rw [g2, c1, su_ne _ _ (by decide), su_same, n1], by rw [g2, c2, su_ne _ _ (by decide), su_ne _ _ (by decide)]; exact n2, ?_⟩
    rw [g2, c4, su_same, n3, zwr_eq (by omega) (by omega)]
  · rw [c1] at y1
    have row := fun {w : Int} (hw : 0 ≤ w ∧ w ≤ 4) => sGive_row (s := s) (x := a1) hW.l hx w2 y0 y1 hw
    rw [row (by omega), row (by omega), row (by omega), row (by omega), row (by omega)]
    rw [g1 y y0 (by omega) 10 (by omega) (by omega), g1 y y0 (by omega) 11 (by omega) (by omega), g1 y y0 (by omega) 12 (by omega) (by omega), g1 y y0 (by omega) 13 (by omega) (by omega), g1 y y0 (by omega) 14 (by omega) (by omega)]
    rw [hw 10 (by omega) (by omega), hw 11 (by omega) (by omega), hw 12 (by omega) (by omega), hw 13 (by omega) (by omega), hw 14 (by omega) (by omega)]
    exact r.l _ (by split <;> omega) (by split <;> omega)
