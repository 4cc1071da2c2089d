/-! gathering, as a function of states -/
theorem mono_le {f : Int → Int} {n : Int} (h : ∀ x y : Int, 0 ≤ x → x < y → y < n → f x < f y) {x y : Int} (hx : 0 ≤ x) (hx2 : x < n) (hy : 0 ≤ y) (hy2 : y < n) : f x < f y ↔ x < y := by
  constructor
  · intro q
    by_cases e : x < y
    · exact e
    · by_cases e2 : y < x
      · have := h y x hy e2 hx2
        omega
      · have e3 : x = y := by omega
        rw [e3] at q
        omega
  · intro q
    exact h x y hx q hy2
/-- the row of a number is unique -/
theorem sPlc_of {s : zs} (ho : WFo s) {x : Int} (hx : 0 ≤ x ∧ x < s 132) : sPlace s (s (136 + 5 * x + 0).toNat) = x := by
  have key : ∀ m : Nat, (m : Int) ≤ x → sPlc s (s (136 + 5 * x + 0).toNat) m = -5 := by
    intro m
    induction m with
    | zero => intro _; rfl
    | succ m ih =>
      intro hm
      unfold sPlc
      rw [if_pos (ih (by omega)), if_neg]
      have := ho (m : Int) x (by omega) (by omega) hx.2
      omega
  have h1 := key x.toNat (by omega)
  have e : ((x.toNat : Nat) : Int) = x := by omega
  have h2 := sPlc_first h1 (by rw [e]) (s 132).toNat (by omega)
  unfold sPlace
  rw [h2, e]
theorem sCan_dec (s : zs) (x : Int) : sCan s x ∨ ¬ sCan s x := Classical.em _
/-- what becomes of one loan, x, when its lender gathers: m are those who are gathering, 'call' is the borrower's own gathering -/
noncomputable def gBack (s : zs) (x : Int) : zs := @ite _ (sCan s x) (Classical.propDecidable _) (sGive s x) s
noncomputable def gOne (call : zs → Int → zs) (m : Nat) (s : zs) (x : Int) : zs :=
  let b := s (136 + 5 * x + 2).toNat
  let s1 := if s (6 * s (136 + 5 * x + 3).toNat + b).toNat < s (136 + 5 * x + 4).toNat ∧ m.testBit b.toNat = false then call s b else s
  gBack s1 (sPlace s1 (s (136 + 5 * x + 0).toNat))
noncomputable def gIn (call : zs → Int → zs) (m : Nat) (a c : Int) : Nat → Int → zs → zs
  | 0, _, s => s
  | n + 1, k, s => if sLatest s a c k = -5 then s else gIn call m a c n (s (136 + 5 * sLatest s a c k + 0).toNat) (gOne call m s (sLatest s a c k))
/-- agent a gathers cell c; m: who is gathering already; n: how deep it may go -/
noncomputable def gat (c : Int) : Nat → Nat → zs → Int → zs
  | 0, _, s, _ => s
  | n + 1, m, s, a => gIn (fun s' b => gat c n (m ||| 1 <<< a.toNat) s' b) (m ||| 1 <<< a.toNat) a c 40 1000 s
/-- s' comes from s by giving loans back: well-formed, its rows are rows of s in their order, no row lent by one in m is gone -/
def gSub (m : Nat) (s s' : zs) : Prop := s' 133 = s 133 ∧ s 135 ≤ s' 135 ∧ (s' 135 = s 135 → s' = s) ∧ (∀ j : Nat, 36 ≤ j → (j < 132 ∨ j = 134 ∨ 336 ≤ j) → s' j = s j) ∧ (∀ y : Int, 0 ≤ y → y < s' 132 → ∃ x : Int, y ≤ x ∧ x < s 132 ∧ ∀ w : Int, 0 ≤ w ∧ w ≤ 4 → s' (136 + 5 * y + w).toNat = s (136 + 5 * x + w).toNat) ∧ (∀ x : Int, 0 ≤ x → x < s 132 → m.testBit (s (136 + 5 * x + 1).toNat).toNat = true → ∃ y : Int, 0 ≤ y ∧ y < s' 132 ∧ ∀ w : Int, 0 ≤ w ∧ w ≤ 4 → s' (136 + 5 * y + w).toNat = s (136 + 5 * x + w).toNat)
theorem gSub.refl (m : Nat) (s : zs) : gSub m s s := ⟨rfl, Int.le_refl _, fun _ => rfl, fun _ _ _ => rfl, fun y _ h1 => ⟨y, Int.le_refl _, h1, fun _ _ => rfl⟩, fun x h0 h1 _ => ⟨x, h0, h1, fun _ _ => rfl⟩⟩
theorem gSub.trans {m : Nat} {s s1 s2 : zs} (h : gSub m s s1) (k : gSub m s1 s2) : gSub m s s2 := by
  obtain ⟨a1, a2, a3, a4, a5, a6⟩ := h
  obtain ⟨b1, b2, b3, b4, b5, b6⟩ := k
  refine ⟨by rw [b1, a1], by omega, fun e => ?_, fun j h1 h2 => by rw [b4 j h1 h2, a4 j h1 h2], fun y h0 h1 => ?_, fun x h0 h1 h2 => ?_⟩
  · rw [b3 (by omega), a3 (by omega)]
  · obtain ⟨x, c1, c2, c3⟩ := b5 y h0 h1
    obtain ⟨z, d1, d2, d3⟩ := a5 x (by omega) c2
    exact ⟨z, by omega, d2, fun w hw => by rw [c3 w hw, d3 w hw]⟩
  · obtain ⟨y, c1, c2, c3⟩ := a6 x h0 h1 h2
    obtain ⟨z, d1, d2, d3⟩ := b6 y c1 c2 (by rw [c3 1 (by omega)]; exact h2)
    exact ⟨z, d1, d2, fun w hw => by rw [d3 w hw, c3 w hw]⟩
theorem gSub.less {m m' : Nat} {s s1 : zs} (h : gSub m s s1) (hm : ∀ i : Nat, m'.testBit i = true → m.testBit i = true) : gSub m' s s1 :=
  ⟨h.1, h.2.1, h.2.2.1, h.2.2.2.1, h.2.2.2.2.1, fun x h0 h1 h2 => h.2.2.2.2.2 x h0 h1 (hm _ h2)⟩
theorem gSub_give {B : Int} {m : Nat} {s : zs} {x : Int} (h : WF B s) (hx : 0 ≤ x ∧ x < s 132) (hm : m.testBit (s (136 + 5 * x + 1).toNat).toNat = false) : gSub m s (sGive s x) := by
  obtain ⟨c1, c2, c3, c4⟩ := sGive_cnt h.l hx h.n
  have n2 := h.n.2.1
  refine ⟨c2, by omega, fun e => by omega, fun j h1 h2 => sGive_off h.l hx n2 h1 (by omega), fun y h0 h1 => ?_, fun z h0 h1 h2 => ?_⟩
  · refine ⟨if y < x then y else y + 1, by split <;> omega, by split <;> omega, fun w hw => sGive_row h.l hx n2 h0 (by omega) hw⟩
  · have hzx : z ≠ x := fun e => by rw [e, hm] at h2; cases h2
    by_cases e : z < x
    · refine ⟨z, h0, by omega, fun w hw => ?_⟩
      rw [sGive_row h.l hx n2 h0 (by omega) hw, if_pos e]
    · refine ⟨z - 1, by omega, by omega, fun w hw => ?_⟩
      rw [sGive_row h.l hx n2 (by omega) (by omega) hw, if_neg (by omega), show z - 1 + 1 = z by omega]
